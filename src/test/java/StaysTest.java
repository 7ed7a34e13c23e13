import java.util.Arrays;
import java.util.LinkedHashMap;
import java.util.List;
import java.util.Map;
import java.util.function.Function;
import java.util.stream.LongStream;

/**
 * Each call that is no error changes what the document says of it and nothing else: of two planners that were made
 * alike one is called, and then each part of the state is asked of both. RefusedTest does so for errors.
 */
public final class StaysTest {
    /** All that a planner holds, by what tells it; asking may change the planner, so each part has one of its own. */
    private static final Map<String, Function<RatePlanner, long[]>> PARTS = new LinkedHashMap<>();

    static {
        PARTS.put("clip", StaysTest::clip);
        PARTS.put("layout", StaysTest::layout);
        PARTS.put("plan", StaysTest::plan);
        PARTS.put("interval", x -> new long[] {x.count(5)});
        PARTS.put("bridges", x -> new long[] {x.count(6)});
        PARTS.put("weights", StaysTest::weights);
        PARTS.put("range", x -> new long[] {x.setRange(0, 51)});
        PARTS.put("size", x -> new long[] {x.count(7)});
        PARTS.put("start", x -> new long[] {x.count(8)});
        PARTS.put("rate", x -> new long[] {x.count(9)});
        PARTS.put("zones", StaysTest::zones);
        PARTS.put("text", StaysTest::text);
        PARTS.put("slot 0", x -> slot(x, 0));
        PARTS.put("slot 1", x -> slot(x, 1));
    }

    private static final String[] KEPT_IN_SLOTS = {
        "clip", "layout", "plan", "interval", "bridges", "weights", "range", "size", "start", "rate", "zones"};

    public static void main(String[] args) {
        Check.says("Nothing is promised beyond the answers and state changes described above");
        asMade();
        asSaved();
        otherFrames();
        layoutFollows();
        theClip();
        settings();
        plans();
        questions();
        slots();
        plansInSlots();
        Check.end("StaysTest");
    }

    // ---- the parts

    private static long[] clip(RatePlanner x) {
        return LongStream.concat(Arrays.stream(Check.property(x, 0)), Arrays.stream(Check.property(x, 1))).toArray();
    }

    /** What follows from the clip, the interval and the number of bridges. */
    private static long[] layout(RatePlanner x) {
        LongStream told = LongStream.concat(LongStream.of(x.count(1), x.count(2)), Arrays.stream(Check.order(x)));
        for (int what = 2; what <= 7; what++) {
            told = LongStream.concat(told, Arrays.stream(Check.property(x, what)));
        }
        return told.toArray();
    }

    private static long[] plan(RatePlanner x) {
        return x.count(3) == 1 ? Check.quantizers(x) : new long[0];
    }

    private static long[] weights(RatePlanner x) {
        long[] row = new long[60];
        for (int scene = 0; scene < row.length; scene++) {
            row[scene] = x.setWeight(scene, 4);
        }
        return row;
    }

    /** A plan of 60 frames of one group tells the offsets of all zones, whatever the planner held besides. */
    private static long[] zones(RatePlanner x) {
        Check.write(x, "9/0*60");
        x.load();
        x.setInterval(60);
        x.setBridges(0);
        x.setRange(0, 51);
        x.constant(25);
        return LongStream.concat(LongStream.of(x.count(4)), Arrays.stream(Check.quantizers(x))).toArray();
    }

    private static long[] text(RatePlanner x) {
        return LongStream.concat(LongStream.of(x.count(10), x.load()), Arrays.stream(clip(x))).toArray();
    }

    private static long[] slot(RatePlanner x, int slot) {
        LongStream told = LongStream.of(x.restore(slot));
        for (String part : KEPT_IN_SLOTS) {
            told = LongStream.concat(told, Arrays.stream(PARTS.get(part).apply(x)));
        }
        return told.toArray();
    }

    // ---- the planner that is called, and the calls

    /**
     * The settings: interval, bridges, the weights of the scenes 0 and 59, the range, size and start, rate, and a
     * zone's first and last frame and offset.
     */
    private static void set(RatePlanner x, String clip, int... settings) {
        Check.write(x, clip);
        x.load();
        x.setInterval(settings[0]);
        x.setBridges(settings[1]);
        x.setWeight(0, settings[2]);
        x.setWeight(59, settings[3]);
        x.setRange(settings[4], settings[5]);
        x.setBuffer(settings[6], settings[7]);
        x.setRate(settings[8]);
        x.clearZones();
        x.addZone(settings[9], settings[10], settings[11]);
    }

    /** A plan of which some frames underflow and which each call can change; other things in both slots; a text. */
    private static RatePlanner made() {
        RatePlanner x = new RatePlanner();
        set(x, "50/9*4;50/80", 3, 0, 2, 7, 20, 30, 3000, 40, 100, 1, 4, 2);
        x.constant(21);
        x.save(0);
        set(x, "60/9*3;60/99", 4, 3, 5, 8, 1, 50, 4000, 60, 900, 3, 9, -4);
        x.save(1);
        set(x, "400/100*6;300/460*2", 5, 1, 6, 3, 5, 48, 9000, 70, 1500, 2, 3, 7);
        Check.write(x, "7/7*3;9/9");
        x.constant(20);
        return x;
    }

    private static void part(String name, long... due) {
        Check.due(name + " of what was made", PARTS.get(name).apply(made()), due);
    }

    private static void asMade() {
        part("clip", 400, 400, 400, 400, 400, 400, 300, 300, 100, 100, 100, 100, 100, 100, 460, 460);
        part("plan", 17, 22, 27, 29, 20, 17, 17, 17);
        part("interval", 5);
        part("bridges", 1);
        part("range", 548);
        part("size", 9000);
        part("start", 70);
        part("rate", 1500);
        part("text", 9, 4, 7, 7, 7, 9, 7, 7, 7, 9);
        weightsAndZones(made(), 6, 3, 2, 3, 7);
    }

    private static void asSaved() {
        for (int slot = 0; slot <= 1; slot++) {
            RatePlanner x = made();
            Check.due("restore(" + slot + ")", x.restore(slot), slot == 0 ? 5 : 4);
            Check.due("plan of slot " + slot, x.count(3), 1 - slot);
            Check.due("range of slot " + slot, x.setRange(0, 51), slot == 0 ? 2030 : 150);
            Check.due("interval of slot " + slot, x.count(5), slot == 0 ? 3 : 4);
            Check.due("bridges of slot " + slot, x.count(6), slot == 0 ? 0 : 3);
            Check.due("size of slot " + slot, x.count(7), slot == 0 ? 3000 : 4000);
            Check.due("start of slot " + slot, x.count(8), slot == 0 ? 40 : 60);
            Check.due("rate of slot " + slot, x.count(9), slot == 0 ? 100 : 900);
        }
        RatePlanner first = made();
        first.restore(0);
        Check.due("clip of slot 0", clip(first), 50, 50, 50, 50, 50, 9, 9, 9, 9, 80);
        Check.due("plan of slot 0", plan(first), 20, 23, 23, 20, 20);
        weightsAndZones(first, 2, 7, 1, 4, 2);
        RatePlanner second = made();
        second.restore(1);
        Check.due("clip of slot 1", clip(second), 60, 60, 60, 60, 9, 9, 9, 99);
        weightsAndZones(second, 5, 8, 3, 9, -4);
    }

    private static void weightsAndZones(RatePlanner x, int ofFirst, int ofLast, int first, int last, int offset) {
        long[] weights = new long[60];
        Arrays.fill(weights, 4);
        weights[0] = ofFirst;
        weights[59] = ofLast;
        Check.due("weights", weights(x), weights);
        long[] zones = new long[61];
        Arrays.fill(zones, 25);
        zones[0] = 1;
        zones[1] = 22;
        for (int frame = first; frame <= last; frame++) {
            zones[1 + frame] += offset;
        }
        Check.due("zones", zones(x), zones);
    }

    private static void changes(Call call, String... parts) {
        Check.holds(call + " is no error", call.on(made()) >= 0);
        changesOnly(call, parts);
    }

    private static void changesOnly(Call call, String... parts) {
        for (Map.Entry<String, Function<RatePlanner, long[]>> part : PARTS.entrySet()) {
            RatePlanner called = made();
            call.on(called);
            boolean same = Arrays.equals(part.getValue().apply(called), part.getValue().apply(made()));
            boolean due = !List.of(parts).contains(part.getKey());
            Check.holds(part.getKey() + (due ? " stays behind " : " changes by ") + call, same == due);
        }
    }

    private static Call call(String name, int... arguments) {
        return new Call(name, arguments);
    }

    private static void otherFrames() {
        RatePlanner x = made();
        x.drop();
        Check.due("the frames behind drop()", clip(x), 400, 400, 400, 400, 400, 400, 300, 100, 100, 100, 100, 100, 100, 460);
        x.append(5, 6);
        Check.due("the frames behind append(5, 6)", clip(x),
            400, 400, 400, 400, 400, 400, 300, 5, 100, 100, 100, 100, 100, 100, 460, 6);
        x.set(3, 7, 8);
        Check.due("the frames behind set(3, 7, 8)", clip(x),
            400, 400, 400, 7, 400, 400, 300, 5, 100, 100, 100, 8, 100, 100, 460, 6);
    }

    private static final Call[] DISCARDING = {
        new Call("append", 40, 30), new Call("set", 1, 40, 70), new Call("drop"), new Call("load"),
        new Call("setInterval", 3), new Call("setBridges", 2)};

    /** The types, the order and the like are those of a planner to which the same frames were appended. */
    private static void layoutFollows() {
        for (Call call : DISCARDING) {
            RatePlanner called = made();
            call.on(called);
            Check.due("the layout behind " + call, layout(called), layout(appended(called)));
        }
        for (int slot = 0; slot <= 1; slot++) {
            RatePlanner restored = made();
            restored.restore(slot);
            Check.due("the layout behind restore(" + slot + ")", layout(restored), layout(appended(restored)));
        }
    }

    private static RatePlanner appended(RatePlanner other) {
        RatePlanner x = new RatePlanner();
        x.setInterval(other.count(5));
        x.setBridges(other.count(6));
        for (int frame = 0; frame < other.count(0); frame++) {
            x.append(other.frame(frame, 0), other.frame(frame, 1));
        }
        return x;
    }

    private static void theClip() {
        changes(call("append", 40, 30), "clip", "layout", "plan");
        changes(call("set", 1, 40, 70), "clip", "layout", "plan");
        changes(call("set", 0, 400, 100), "plan");
        changes(call("drop"), "clip", "layout", "plan");
        changes(call("type", '9'), "text");
        changes(call("clear"), "text");
        changes(call("load"), "clip", "layout", "plan", "text");
        changes(call("frame", 1, 4));
        changes(call("coded", 1));
    }

    private static void settings() {
        changes(call("setInterval", 3), "interval", "layout", "plan");
        changes(call("setInterval", 5), "plan");
        changes(call("setBridges", 2), "bridges", "layout", "plan");
        changes(call("setBridges", 1), "plan");
        changes(call("setWeight", 0, 1), "weights");
        changes(call("setWeight", 59, 1), "weights");
        changes(call("setRange", 25, 26), "range");
        changes(call("setBuffer", 500, 30), "size", "start");
        changes(call("setBuffer", 500, 70), "size");
        changes(call("setBuffer", 9000, 30), "start");
        changes(call("setRate", 200), "rate");
        changes(call("addZone", 0, 59, 1), "zones");
        changes(call("clearZones"), "zones");
    }

    private static void plans() {
        changes(call("constant", 30), "plan");
        changes(call("control", 30, 50), "plan");
        changes(call("distribute", 9000), "plan");
        changes(call("smooth", 1), "plan");
        changes(call("repair"), "plan");
        changes(call("relax", 10000000), "plan");
        changes(call("adjust", 1, 33), "plan");
    }

    private static void questions() {
        changes(call("bitsAt", 1, 20));
        changes(call("lossAt", 1, 20));
        for (int what = 0; what <= 6; what++) {
            changes(call("planned", 1, what));
            changes(call("total", what));
        }
        for (int what = 0; what <= 5; what++) {
            changes(call("scene", 1, what));
        }
        changes(call("leastSize"));
        changes(call("leastStart"));
        changes(call("leastRate"));
        changes(call("bestConstant"));
        changes(call("demand", 1, 3));
    }

    private static void slots() {
        changes(call("save", 0), "slot 0");
        changes(call("save", 1), "slot 1");
        changes(call("restore", 0), KEPT_IN_SLOTS);
        changes(call("restore", 1), KEPT_IN_SLOTS);
        for (int what = 0; what <= 10; what++) {
            changes(call("count", what));
        }
        // a hash may be below 0, and is no error
        changesOnly(call("digest"));
    }

    private static void plansInSlots() {
        for (Call call : DISCARDING) {
            for (int slot = 0; slot <= 1; slot++) {
                RatePlanner x = made();
                x.save(slot);
                call.on(x);
                Check.due("no plan behind " + call, x.count(3), 0);
                Check.due("restore(" + slot + ") behind " + call, x.restore(slot), 8);
                Check.due("the plan of slot " + slot, plan(x), plan(made()));
            }
        }
    }
}
