import java.util.ArrayList;
import java.util.List;
import java.util.function.Supplier;

/**
 * Every argument of every call at the least and the greatest value that is taken and at the first one beyond on
 * either side; the order of the errors; and "A call that returns an error changes nothing": of two planners that
 * were made alike one is asked what it must refuse, and all that can be asked must then be as with the other.
 */
public final class RefusedTest {
    private static final int BAD = RatePlanner.BAD, STATE = RatePlanner.STATE, FULL = RatePlanner.FULL;
    private static final int LOWEST = Integer.MIN_VALUE, HIGHEST = Integer.MAX_VALUE;

    public static void main(String[] args) {
        Check.says("BAD: an argument is out of range, or names something that does not exist.");
        argumentsOfTheClip();
        argumentsOfSettings();
        argumentsOfPlans();
        argumentsOfSlots();
        Check.says("STATE: the call is not possible at present, as described.");
        withoutFrames();
        withoutAPlan();
        withASlotNeverSaved();
        whereThePlanWontDo();
        Check.says("FULL: a limit would be exceeded.");
        whatIsFull();
        Check.says("(the text stays)");
        textsWithAFault();
        Check.says("If several of them apply to a call, the one that comes first in the description of the result is"
            + " returned.");
        badComesBeforeFull();
        badComesBeforeNoFrames();
        badComesBeforeNoPlan();
        Check.end("RefusedTest");
    }

    // ---- planners to be asked

    private static RatePlanner fresh() {
        return new RatePlanner();
    }

    private static RatePlanner set(RatePlanner x, int interval, int bridges) {
        x.setInterval(interval);
        x.setBridges(bridges);
        x.setWeight(0, 8);
        x.setWeight(1, 3);
        x.setWeight(59, 1);
        x.setRange(11, 44);
        x.setBuffer(50000, 70);
        x.setRate(3000);
        return x;
    }

    /** Five frames and two scenes, but no plan; a text with a fault; something else in slot 1. */
    private static RatePlanner unplanned() {
        RatePlanner x = set(Check.clip(400, 100, 300, 50, 300, 460, 200, 30, 100, 150), 7, 1);
        x.addZone(1, 50, -2);
        x.constant(30);
        x.save(1);
        x.append(40, 50);
        Check.write(x, "5/5*3;;");
        return x;
    }

    /** As full as can be: 60 frames with a plan, 6 zones, a text of 100 bytes; slot 1 was never saved. */
    private static RatePlanner full() {
        RatePlanner x = set(Check.load("400/100*31;300/460;90/90*20"), 9, 3);
        x.control(22, 30);
        x.save(0);
        for (int zone = 0; zone < 6; zone++) {
            x.addZone(zone, 10 * zone, zone - 3);
        }
        Check.write(x, "4/4;".repeat(25));
        for (int frame = 52; frame < 60; frame++) {
            x.append(100 + frame, 3 * frame);
        }
        x.constant(24);
        return x;
    }

    /** A plan, and room for more in every respect. */
    private static RatePlanner planned() {
        RatePlanner x = set(Check.load("400/100*6;300/460*2"), 5, 2);
        x.addZone(2, 3, 4);
        x.save(0);
        x.distribute(20000);
        Check.write(x, "7/7");
        return x;
    }

    /** A plan of which all frames underflow, and that no repair can help. */
    private static RatePlanner helpless() {
        RatePlanner x = planned();
        x.setBuffer(100, 0);
        x.setRate(0);
        x.save(0);
        return x;
    }

    // ---- asking them

    private static void refused(Supplier<RatePlanner> make, long due, String name, int... arguments) {
        refused(make, due, new Call(name, arguments));
    }

    private static void refused(Supplier<RatePlanner> make, long due, Call call) {
        RatePlanner asked = make.get();
        Check.due(call.toString(), call.on(asked), due);
        Check.due("a call that returns an error changes nothing: " + call, everything(asked), everything(make.get()));
    }

    /** All that the calls tell of a planner, which is changed by that: 500 calls at most with those that made it. */
    private static long[] everything(RatePlanner x) {
        List<Long> told = new ArrayList<>();
        tellClipAndSettings(x, told);
        for (int slot = 0; slot <= 1; slot++) {
            told.add((long) x.restore(slot));
            told.add(x.digest());
            told.add((long) x.setRange(0, 51));
            told.add((long) x.setWeight(1, 4));
            told.add((long) x.clearZones());
        }
        return told.stream().mapToLong(Long::longValue).toArray();
    }

    private static void tellClipAndSettings(RatePlanner x, List<Long> told) {
        told.add(x.digest());
        for (int scene = 0; scene <= 59; scene++) {
            told.add((long) x.setWeight(scene, 4));
        }
        told.add((long) x.setRange(0, 51));
        told.add((long) x.load());
        told.add((long) x.clear());
        while (x.append(4000, 0) >= 0) {
            told.add((long) x.count(2));
        }
        // the plan for 60 frames tells the zones, wherever they are
        told.add((long) x.constant(25));
        told.add(x.digest());
    }

    /**
     * The call is one that is taken; an argument of it may be from its least to its greatest value while the others
     * stay as they are.
     */
    private static void argument(Supplier<RatePlanner> make, Call call, int index, int least, int greatest) {
        Check.holds(call + " is taken", call.on(make.get()) >= 0);
        for (int taken : new int[] {least, greatest}) {
            Call other = call.with(index, taken);
            Check.holds(other + " is taken", other.on(make.get()) >= 0);
        }
        for (int bad : new int[] {least - 1, greatest + 1, LOWEST, HIGHEST}) {
            refused(make, BAD, call.with(index, bad));
        }
    }

    private static void arguments(Supplier<RatePlanner> make, Call call, int... bounds) {
        for (int index = 0; index < call.arguments().length; index++) {
            argument(make, call, index, bounds[2 * index], bounds[2 * index + 1]);
        }
    }

    private static Call call(String name, int... arguments) {
        return new Call(name, arguments);
    }

    // ---- arguments

    private static void argumentsOfTheClip() {
        arguments(RefusedTest::planned, call("append", 40, 30), 1, 4000, 0, 4000);
        arguments(RefusedTest::planned, call("set", 3, 40, 30), 0, 7, 1, 4000, 0, 4000);
        arguments(RefusedTest::full, call("set", 3, 40, 30), 0, 59, 1, 4000, 0, 4000);
        arguments(RefusedTest::planned, call("type", '5'), 0, 127);
        arguments(RefusedTest::planned, call("frame", 2, 3), 0, 7, 0, 7);
        arguments(RefusedTest::full, call("frame", 2, 3), 0, 59, 0, 7);
        arguments(RefusedTest::planned, call("coded", 2), 0, 7);
        arguments(RefusedTest::full, call("coded", 2), 0, 59);
        for (int none : new int[] {LOWEST, -1, 0, 1, 59, 60, HIGHEST}) {
            refused(RefusedTest::fresh, BAD, "set", none, 1, 0);
            refused(RefusedTest::fresh, BAD, "frame", none, 0);
            refused(RefusedTest::fresh, BAD, "coded", none);
        }
    }

    private static void argumentsOfSettings() {
        arguments(RefusedTest::planned, call("setInterval", 8), 1, 60);
        arguments(RefusedTest::planned, call("setBridges", 1), 0, 3);
        arguments(RefusedTest::planned, call("setWeight", 1, 2), 0, 59, 1, 8);
        arguments(RefusedTest::fresh, call("setWeight", 59, 2), 0, 59, 1, 8);
        arguments(RefusedTest::planned, call("setRange", 20, 30), 0, 30, 20, 51);
        arguments(RefusedTest::planned, call("setRange", 0, 0), 0, 0, 0, 51);
        arguments(RefusedTest::planned, call("setRange", 51, 51), 0, 51, 51, 51);
        arguments(RefusedTest::planned, call("setBuffer", 5000, 50), 100, 1000000, 0, 100);
        arguments(RefusedTest::planned, call("setRate", 700), 0, 100000);
        arguments(RefusedTest::planned, call("addZone", 20, 30, 5), 0, 30, 20, 59, -10, 10);
        arguments(RefusedTest::planned, call("addZone", 0, 0, 5), 0, 0, 0, 59, -10, 10);
        arguments(RefusedTest::planned, call("addZone", 59, 59, 5), 0, 59, 59, 59, -10, 10);
    }

    private static void argumentsOfPlans() {
        for (Supplier<RatePlanner> make : List.<Supplier<RatePlanner>>of(RefusedTest::planned, RefusedTest::full)) {
            int last = make.get().count(0) - 1;
            arguments(make, call("bitsAt", 2, 30), 0, last, 0, 51);
            arguments(make, call("lossAt", 2, 30), 0, last, 0, 51);
            arguments(make, call("constant", 30), 0, 51);
            arguments(make, call("control", 30, 50), 0, 51, 0, 200);
            arguments(make, call("smooth", 3), 0, 51);
            arguments(make, call("relax", 7000), 0, 10000000);
            arguments(make, call("adjust", 2, 30), 0, last, 0, 51);
            arguments(make, call("planned", 2, 3), 0, last, 0, 6);
            arguments(make, call("total", 3), 0, 6);
            arguments(make, call("scene", 1, 3), 0, make.get().count(1) - 1, 0, 5);
            arguments(make, call("demand", 2, 5), 0, 5, 2, last);
            arguments(make, call("demand", 0, 0), 0, 0, 0, last);
            arguments(make, call("demand", last, last), 0, last, last, last);
        }
        Call distribute = call("distribute", 20000);
        Check.holds("distribute(10000000) is taken", distribute.with(0, 10000000).on(planned()) >= 0);
        for (int bad : new int[] {-1, 10000001, LOWEST, HIGHEST}) {
            refused(RefusedTest::planned, BAD, distribute.with(0, bad));
        }
    }

    private static void argumentsOfSlots() {
        arguments(RefusedTest::planned, call("save", 0), 0, 1);
        for (int bad : new int[] {-1, 2, LOWEST, HIGHEST}) {
            refused(RefusedTest::planned, BAD, "restore", bad);
        }
        arguments(RefusedTest::planned, call("count", 5), 0, 10);
        arguments(RefusedTest::fresh, call("count", 5), 0, 10);
    }

    // ---- STATE

    private static void withoutFrames() {
        refused(RefusedTest::fresh, STATE, "drop");
        for (int quantizer : new int[] {0, 20, 51}) {
            refused(RefusedTest::fresh, STATE, "constant", quantizer);
            refused(RefusedTest::fresh, STATE, "control", quantizer, 0);
            refused(RefusedTest::fresh, STATE, "control", quantizer, 200);
            refused(RefusedTest::fresh, STATE, "smooth", quantizer);
        }
        for (int bits : new int[] {0, 40, 10000000}) {
            refused(RefusedTest::fresh, STATE, "distribute", bits);
            refused(RefusedTest::fresh, STATE, "relax", bits);
        }
        for (String name : new String[] {"repair", "bestConstant", "leastSize", "leastStart", "leastRate"}) {
            refused(RefusedTest::fresh, STATE, name);
        }
        for (int what = 0; what <= 6; what++) {
            refused(RefusedTest::fresh, STATE, "total", what);
        }
    }

    private static void withoutAPlan() {
        for (int what = 0; what <= 6; what++) {
            refused(RefusedTest::unplanned, STATE, "planned", 0, what);
            refused(RefusedTest::unplanned, STATE, "planned", 5, what);
            refused(RefusedTest::unplanned, STATE, "total", what);
        }
        refused(RefusedTest::unplanned, STATE, "scene", 1, 3);
        refused(RefusedTest::unplanned, STATE, "scene", 1, 4);
        for (int quantizer : new int[] {0, 51}) {
            refused(RefusedTest::unplanned, STATE, "smooth", quantizer);
            refused(RefusedTest::unplanned, STATE, "adjust", 0, quantizer);
            refused(RefusedTest::unplanned, STATE, "adjust", 5, quantizer);
        }
        refused(RefusedTest::unplanned, STATE, "relax", 0);
        refused(RefusedTest::unplanned, STATE, "relax", 10000000);
        for (String name : new String[] {"repair", "leastSize", "leastStart", "leastRate"}) {
            refused(RefusedTest::unplanned, STATE, name);
        }
        refused(RefusedTest::unplanned, STATE, "demand", 0, 0);
        refused(RefusedTest::unplanned, STATE, "demand", 0, 5);
    }

    private static void withASlotNeverSaved() {
        refused(RefusedTest::fresh, STATE, "restore", 0);
        refused(RefusedTest::fresh, STATE, "restore", 1);
        refused(RefusedTest::full, STATE, "restore", 1);
        refused(RefusedTest::planned, STATE, "restore", 1);
        refused(RefusedTest::unplanned, STATE, "restore", 0);
    }

    private static void whereThePlanWontDo() {
        refused(RefusedTest::helpless, STATE, "repair");
        refused(RefusedTest::planned, STATE, "distribute", 40 * 8 - 1);
        refused(RefusedTest::planned, STATE, "distribute", 0);
        refused(RefusedTest::full, STATE, "distribute", 40 * 60 - 1);
        Check.holds("40 bits a frame are taken", planned().distribute(40 * 8) >= 0);
        Check.holds("40 bits a frame are taken", full().distribute(40 * 60) >= 0);
    }

    // ---- FULL, and texts

    private static void whatIsFull() {
        refused(RefusedTest::full, FULL, "append", 1, 0);
        refused(RefusedTest::full, FULL, "append", 4000, 4000);
        refused(RefusedTest::full, FULL, "type", 0);
        refused(RefusedTest::full, FULL, "type", 127);
        refused(RefusedTest::full, FULL, "addZone", 0, 0, 0);
        refused(RefusedTest::full, FULL, "addZone", 59, 59, 10);
    }

    private static void textsWithAFault() {
        refused(RefusedTest::full, -2100, "load");
        refused(RefusedTest::unplanned, -2006, "load");
        refused(() -> {
            RatePlanner x = planned();
            x.type(';');
            return x;
        }, -2004, "load");
    }

    // ---- several errors at once

    private static void badComesBeforeFull() {
        refused(RefusedTest::full, BAD, "append", 0, 0);
        refused(RefusedTest::full, BAD, "append", 1, 4001);
        refused(RefusedTest::full, BAD, "type", -1);
        refused(RefusedTest::full, BAD, "type", 128);
        refused(RefusedTest::full, BAD, "addZone", 1, 0, 0);
        refused(RefusedTest::full, BAD, "addZone", 0, 60, 0);
        refused(RefusedTest::full, BAD, "addZone", 0, 0, 11);
    }

    private static void badComesBeforeNoFrames() {
        refused(RefusedTest::fresh, BAD, "constant", -1);
        refused(RefusedTest::fresh, BAD, "constant", 52);
        refused(RefusedTest::fresh, BAD, "control", 52, 0);
        refused(RefusedTest::fresh, BAD, "control", 0, 201);
        refused(RefusedTest::fresh, BAD, "distribute", -1);
        refused(RefusedTest::fresh, BAD, "distribute", 10000001);
        refused(RefusedTest::fresh, BAD, "adjust", 0, 0);
        refused(RefusedTest::fresh, BAD, "planned", 0, 0);
        refused(RefusedTest::fresh, BAD, "scene", 0, 3);
        refused(RefusedTest::fresh, BAD, "demand", 0, 0);
        refused(RefusedTest::fresh, BAD, "bitsAt", 0, 0);
        refused(RefusedTest::fresh, BAD, "lossAt", 0, 0);
    }

    private static void badComesBeforeNoPlan() {
        refused(RefusedTest::unplanned, BAD, "smooth", -1);
        refused(RefusedTest::unplanned, BAD, "smooth", 52);
        refused(RefusedTest::unplanned, BAD, "relax", -1);
        refused(RefusedTest::unplanned, BAD, "relax", 10000001);
        refused(RefusedTest::unplanned, BAD, "adjust", 6, 51);
        refused(RefusedTest::unplanned, BAD, "adjust", 5, 52);
        refused(RefusedTest::unplanned, BAD, "planned", 6, 0);
        refused(RefusedTest::unplanned, BAD, "planned", 5, 7);
        refused(RefusedTest::unplanned, BAD, "total", 7);
        refused(RefusedTest::unplanned, BAD, "scene", 2, 3);
        refused(RefusedTest::unplanned, BAD, "scene", 1, 6);
        refused(RefusedTest::unplanned, BAD, "demand", 0, 6);
        refused(RefusedTest::unplanned, BAD, "demand", 5, 4);
        refused(RefusedTest::unplanned, BAD, "restore", 2);
    }
}
