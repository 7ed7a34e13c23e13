/** The sentences of 'Terms' that name a boundary, each by itself; RefusedTest holds to those on errors. */
public final class TermsTest {
    private static final int NONE = RatePlanner.NONE, BAD = RatePlanner.BAD, STATE = RatePlanner.STATE,
        FULL = RatePlanner.FULL;

    public static void main(String[] args) {
        noneIsNoError();
        divisions();
        frames();
        pictures();
        cuts();
        scenes();
        weights();
        intervals();
        groups();
        types();
        codingOrder();
        steps();
        works();
        bitsAndLoss();
        plans();
        planRange();
        zones();
        zoneFrames();
        settling();
        discarding();
        keeping();
        bufferRanges();
        bufferAtFirst();
        stuffing();
        underflowing();
        Check.end("TermsTest");
    }

    private static void zonesOfAll(RatePlanner x, int... offsets) {
        x.clearZones();
        for (int offset : offsets) {
            x.addZone(0, 59, offset);
        }
    }

    private static void noneIsNoError() {
        Check.says("NONE is not an error; it means that there is no such thing, and is returned only if no error applies.");
        RatePlanner x = new RatePlanner();
        x.setBuffer(100, 0);
        x.setRate(0);
        Check.due("bestConstant() of no frames", x.bestConstant(), STATE);
        x.append(4000, 0);
        Check.due("bestConstant() of what underflows", x.bestConstant(), NONE);
        Check.due("leastSize() without a plan", x.leastSize(), STATE);
        Check.due("leastStart() without a plan", x.leastStart(), STATE);
        Check.due("leastRate() without a plan", x.leastRate(), STATE);
        x.constant(20);
        Check.due("leastSize()", x.leastSize(), NONE);
        Check.due("leastStart()", x.leastStart(), NONE);
        Check.due("leastRate()", x.leastRate(), NONE);
    }

    private static int controlled(int size, int start, int gain) {
        RatePlanner x = Check.wide(Check.clip(400, 0));
        x.setBuffer(size, start);
        x.control(20, gain);
        return x.planned(0, 0);
    }

    private static void divisions() {
        Check.says("All divisions round toward zero, unless something else is said.");
        // an intra frame gets 20 - 3 and (size / 2 - content) * gain / size
        Check.due("-24000 * 1 / 60000", controlled(60000, 90, 1), 17);
        Check.due("-24000 * 2 / 60000", controlled(60000, 90, 2), 17);
        Check.due("-24000 * 3 / 60000", controlled(60000, 90, 3), 16);
        Check.due("24000 * 2 / 60000", controlled(60000, 10, 2), 17);
        Check.due("24000 * 3 / 60000", controlled(60000, 10, 3), 18);
        // half of 101 is 50
        Check.due("50 * 2 / 101", controlled(101, 0, 2), 17);
        Check.due("50 * 3 / 101", controlled(101, 0, 3), 18);
        Check.due("-51 * 1 / 101", controlled(101, 100, 1), 17);
        Check.due("-51 * 2 / 101", controlled(101, 100, 2), 16);
    }

    private static void frames() {
        Check.says("A clip has at most 60 frames, none at first, numbered from 0 in the order in which they are shown.");
        RatePlanner x = new RatePlanner();
        Check.due("count(0)", x.count(0), 0);
        Check.due("frame(0, 0)", x.frame(0, 0), BAD);
        for (int frame = 0; frame < 60; frame++) {
            Check.due("append", x.append(101 + frame, frame), frame);
        }
        Check.due("append to 60", x.append(101, 0), FULL);
        Check.due("count(0)", x.count(0), 60);
        for (int frame = 0; frame < 60; frame++) {
            Check.due("frame(" + frame + ", 0)", x.frame(frame, 0), 101 + frame);
            Check.due("frame(" + frame + ", 1)", x.frame(frame, 1), frame);
        }
        Check.due("frame(60, 0)", x.frame(60, 0), BAD);
        Check.due("60 frames by a text", Check.load("1/0*30;1/0*30").count(0), 60);
    }

    private static void pictures() {
        Check.says("Each has a texture from 1 to 4000 and a motion from 0 to 4000.");
        RatePlanner x = new RatePlanner();
        Check.due("append(1, 0)", x.append(1, 0), 0);
        Check.due("append(4000, 4000)", x.append(4000, 4000), 1);
        Check.due("append(0, 0)", x.append(0, 0), BAD);
        Check.due("append(4001, 0)", x.append(4001, 0), BAD);
        Check.due("append(1, -1)", x.append(1, -1), BAD);
        Check.due("append(1, 4001)", x.append(1, 4001), BAD);
        Check.due("textures", Check.property(x, 0), 1, 4000);
        Check.due("motions", Check.property(x, 1), 0, 4000);
        RatePlanner y = Check.load("1/0;4000/4000");
        Check.due("textures of a text", Check.property(y, 0), 1, 4000);
        Check.due("motions of a text", Check.property(y, 1), 0, 4000);
    }

    private static int cut(int texture, int motion) {
        RatePlanner x = Check.clip(1, 4000, texture, motion);
        Check.due("the type says so, too", x.frame(1, 2), x.count(1) == 2 ? 0 : 1);
        return x.count(1) - 1;
    }

    private static void cuts() {
        Check.says("Frame i is a cut if i is greater than 0 and 2 * motion > 3 * texture.");
        Check.due("frame 0 is none", Check.clip(1, 4000).count(1), 1);
        Check.due("2 of 3", cut(1, 1), 0);
        Check.due("4 of 3", cut(1, 2), 1);
        Check.due("6 of 6", cut(2, 3), 0);
        Check.due("8 of 6", cut(2, 4), 1);
        Check.due("8000 of 8001", cut(2667, 4000), 0);
        Check.due("8000 of 7998", cut(2666, 4000), 1);
        Check.due("7998 of 7998", cut(2666, 3999), 0);
        Check.due("0 of 12000", cut(4000, 0), 0);
        Check.due("8000 of 3", cut(1, 4000), 1);
    }

    private static void scenes() {
        Check.says("scene 0 begins with frame 0, and each cut begins the next scene.");
        Check.due("scenes of no frames", new RatePlanner().count(1), 0);
        Check.due("scenes of one frame", Check.clip(5, 5).count(1), 1);
        RatePlanner x = Check.frames(60, 10, 16);
        Check.due("60 cuts but one", x.count(1), 60);
        for (int scene = 0; scene < 60; scene++) {
            Check.due("frame(" + scene + ", 3)", x.frame(scene, 3), scene);
            Check.due("scene(" + scene + ", 0)", x.scene(scene, 0), scene);
        }
        Check.due("scene(60, 0)", x.scene(60, 0), BAD);
        RatePlanner y = Check.clip(10, 0, 10, 16, 10, 0, 10, 0, 10, 16);
        Check.due("the last frame too", Check.property(y, 3), 0, 1, 1, 1, 2);
    }

    private static void weights() {
        Check.says("There is a weight from 1 to 8 for each scene number from 0 to 59, 4 at first, whether there is such a"
            + " scene or not.");
        RatePlanner x = new RatePlanner();
        for (int scene = 0; scene < 60; scene++) {
            Check.due("setWeight(" + scene + ", 8)", x.setWeight(scene, 1 + scene % 8), 4);
        }
        Check.due("setWeight(-1, 4)", x.setWeight(-1, 4), BAD);
        Check.due("setWeight(60, 4)", x.setWeight(60, 4), BAD);
        Check.due("setWeight(59, 0)", x.setWeight(59, 0), BAD);
        Check.due("setWeight(59, 9)", x.setWeight(59, 9), BAD);
        for (int frame = 0; frame < 60; frame++) {
            x.append(10, 16);
            // an intra frame at the step 64
            Check.due("lossAt(" + frame + ", 16)", x.lossAt(frame, 16), (1 + frame % 8) * 3 * 64 * 64 / 16);
        }
        for (int scene = 0; scene < 60; scene++) {
            Check.due("setWeight(" + scene + ", 4)", x.setWeight(scene, 4), 1 + scene % 8);
        }
    }

    private static void intrasAt(int interval, RatePlanner x, int... frames) {
        x.setInterval(interval);
        intras(x, frames);
    }

    private static void intras(RatePlanner x, int... frames) {
        int next = 0;
        for (int frame = 0; frame < x.count(0); frame++) {
            boolean due = next < frames.length && frames[next] == frame;
            if (due) {
                next++;
            }
            Check.holds("interval " + x.count(5) + ", frame " + frame, (x.frame(frame, 2) == 0) == due);
        }
        Check.due("groups", x.count(2), frames.length);
    }

    private static void intervals() {
        Check.says("The interval is 1 to 60, at first 12");
        RatePlanner x = Check.load("100/0*60");
        intras(x, 0, 12, 24, 36, 48);
        Check.due("setInterval(0)", x.setInterval(0), BAD);
        Check.due("setInterval(61)", x.setInterval(61), BAD);
        Check.says("A frame is intra if it is frame 0, a cut, or if interval frames have been shown since the latest intra"
            + " frame before it, this one included.");
        intrasAt(60, Check.load("100/0*60"), 0);
        intrasAt(59, Check.load("100/0*60"), 0, 59);
        intrasAt(30, Check.load("100/0*60"), 0, 30);
        intrasAt(29, Check.load("100/0*60"), 0, 29, 58);
        intrasAt(1, Check.load("100/0*3"), 0, 1, 2);
        intrasAt(2, Check.load("100/0*5"), 0, 2, 4);
        RatePlanner cut = Check.load("100/0*3;100/151;100/0*5");
        intrasAt(4, cut, 0, 3, 7);
        intrasAt(3, cut, 0, 3, 6);
        intrasAt(2, cut, 0, 2, 3, 5, 7);
        intrasAt(60, cut, 0, 3);
        cut.set(8, 100, 151);
        intrasAt(60, cut, 0, 3, 8);
    }

    private static void groups() {
        Check.says("A group consists of an intra frame and all frames behind it up to the next intra frame.");
        Check.due("groups of no frames", new RatePlanner().count(2), 0);
        RatePlanner one = Check.clip(5, 5);
        Check.due("groups of one frame", one.count(2), 1);
        Check.due("its first", one.frame(0, 6), 0);
        Check.due("its length", one.frame(0, 7), 1);
        RatePlanner x = Check.frames(60, 100, 0);
        x.setInterval(60);
        Check.due("first of the whole clip", x.frame(59, 6), 0);
        Check.due("length of the whole clip", x.frame(0, 7), 60);
        Check.due("length of the whole clip", x.frame(59, 7), 60);
        x.setInterval(59);
        Check.due("first of the last", x.frame(59, 6), 59);
        Check.due("length of the last", x.frame(59, 7), 1);
        Check.due("length of the first", x.frame(58, 7), 59);
        Check.due("first of the first", x.frame(58, 6), 0);
        x.setInterval(1);
        Check.due("length of each", x.frame(30, 7), 1);
        Check.due("first of each", x.frame(30, 6), 30);
    }

    private static void types(int bridges, int frames, long... due) {
        RatePlanner x = Check.frames(frames, 100, 0);
        x.setInterval(60);
        x.setBridges(bridges);
        Check.due("types of " + frames + " frames with " + bridges + " bridges", Check.property(x, 2), due);
    }

    private static void types() {
        Check.says("In a group of m frames, frame k, counted from 0, where k is not 0, is forward if k = m - 1, or if k is"
            + " a multiple of bridges + 1; otherwise it is a bridge.");
        for (int bridges = 0; bridges <= 3; bridges++) {
            types(bridges, 1, 0);
            types(bridges, 2, 0, 1);
        }
        types(0, 4, 0, 1, 1, 1);
        types(1, 3, 0, 2, 1);
        types(1, 4, 0, 2, 1, 1);
        types(1, 5, 0, 2, 1, 2, 1);
        types(2, 3, 0, 2, 1);
        types(2, 4, 0, 2, 2, 1);
        types(2, 5, 0, 2, 2, 1, 1);
        types(2, 6, 0, 2, 2, 1, 2, 1);
        types(3, 4, 0, 2, 2, 1);
        types(3, 5, 0, 2, 2, 2, 1);
        types(3, 6, 0, 2, 2, 2, 1, 1);
        types(3, 9, 0, 2, 2, 2, 1, 2, 2, 2, 1);
        Check.says("the number of bridges 0 to 3, at first 2.");
        Check.due("types at first", Check.property(Check.frames(5, 100, 0), 2), 0, 2, 2, 1, 1);
        RatePlanner x = new RatePlanner();
        Check.due("setBridges(-1)", x.setBridges(-1), BAD);
        Check.due("setBridges(4)", x.setBridges(4), BAD);
    }

    private static void codingOrder() {
        Check.says("in a group first the intra frame comes; then, as long as frames are left, the next forward frame, and"
            + " after it the bridges before it that have not come yet, in the order in which they are shown.");
        Check.due("order of one", Check.order(Check.clip(5, 5)), 0);
        Check.due("order of two", Check.order(Check.frames(2, 5, 5)), 0, 1);
        Check.due("order of three", Check.order(Check.frames(3, 5, 5)), 0, 2, 1);
        RatePlanner x = Check.frames(7, 100, 0);
        x.setBridges(3);
        Check.due("the last forward frame comes early", Check.order(x), 0, 4, 1, 2, 3, 6, 5);
        x.set(5, 100, 151);
        Check.due("a cut closes the group", Check.order(x), 0, 4, 1, 2, 3, 5, 6);
        x.set(6, 100, 151);
        Check.due("a group of one", Check.order(x), 0, 4, 1, 2, 3, 5, 6);
        x.set(5, 100, 0);
        x.set(3, 100, 151);
        Check.due("groups of three", Check.order(x), 0, 2, 1, 3, 5, 4, 6);
        Check.says("Places in the coding order are numbered from 0.");
        RatePlanner most = Check.frames(60, 100, 0);
        most.setInterval(60);
        Check.due("coded(0)", most.coded(0), 0);
        Check.due("coded(1)", most.coded(1), 3);
        Check.due("coded(58)", most.coded(58), 59);
        Check.due("coded(59)", most.coded(59), 58);
        Check.due("coded(60)", most.coded(60), BAD);
        for (int place = 0; place < 60; place++) {
            Check.due("frame(coded(" + place + "), 4)", most.frame(most.coded(place), 4), place);
        }
    }

    private static void steps() {
        Check.says("The step of a quantizer q, from 0 to 51, is b * 2^(q / 6)");
        RatePlanner x = Check.clip(4000, 0);
        int[] quantizers = {0, 1, 2, 3, 4, 5, 6, 11, 12, 47, 48, 50, 51};
        int[] steps = {10, 11, 13, 14, 16, 18, 20, 36, 40, 2304, 2560, 3328, 3584};
        for (int i = 0; i < steps.length; i++) {
            Check.due("bitsAt(0, " + quantizers[i] + ")", x.bitsAt(0, quantizers[i]), 40 + 3200000 / steps[i]);
        }
    }

    private static void works() {
        Check.says("The work of a frame is 4 * texture if it is intra, texture + 2 * motion if it is forward, and"
            + " texture / 2 + motion if it is a bridge.");
        RatePlanner least = Check.load("1/0*4");
        Check.due("the least works", Check.property(least, 5), 4, 0, 0, 1);
        RatePlanner most = Check.load("4000/4000*4");
        Check.due("the greatest works", Check.property(most, 5), 16000, 6000, 6000, 12000);
        RatePlanner odd = Check.load("3/1*4");
        Check.due("half of 3 is 1", Check.property(odd, 5), 12, 2, 2, 5);
    }

    private static void bitsAndLoss() {
        Check.says("A frame with the quantizer q takes 40 + work * 200 / step bits, and its loss is weight * share * step *"
            + " step / 16");
        RatePlanner x = Check.load("1/0*4");
        // works 4, 0, 0 and 1
        Check.due("800 / 704", x.bitsAt(0, 37), 41);
        Check.due("800 / 832", x.bitsAt(0, 38), 40);
        Check.due("0 / 10", x.bitsAt(1, 0), 40);
        Check.due("200 / 176", x.bitsAt(3, 25), 41);
        Check.due("200 / 208", x.bitsAt(3, 26), 40);
        x.setWeight(0, 1);
        Check.due("1 * 1 * 100 / 16", x.lossAt(1, 0), 6);
        Check.due("1 * 2 * 100 / 16", x.lossAt(3, 0), 12);
        Check.due("1 * 3 * 100 / 16", x.lossAt(0, 0), 18);
        Check.due("1 * 1 * 121 / 16", x.lossAt(1, 1), 7);
        x.setWeight(0, 8);
        Check.due("8 * 3 * 3584 * 3584 / 16", x.lossAt(0, 51), 19267584);
        Check.due("4000 * 4 * 200 / 10", Check.clip(4000, 4000).bitsAt(0, 0), 320040);
    }

    private static void plans() {
        Check.says("There is a plan or none (at first none).");
        RatePlanner x = new RatePlanner();
        Check.due("count(3)", x.count(3), 0);
        Check.due("total(0)", x.total(0), STATE);
        x.append(1, 0);
        Check.due("count(3)", x.count(3), 0);
        Check.due("planned(0, 0)", x.planned(0, 0), STATE);
        x.constant(20);
        Check.due("count(3)", x.count(3), 1);
        Check.due("planned(0, 0)", x.planned(0, 0), 17);
    }

    private static void planRange() {
        Check.says("A plan has a quantizer for each frame, from the least to the greatest allowed quantizer at the time when"
            + " it is made. These are 0 to 51 each, at first 10 and 45.");
        RatePlanner x = Check.frames(3, 400, 100);
        x.setBuffer(1000000, 100);
        x.constant(0);
        Check.due("at first, from 0", Check.quantizers(x), 10, 10, 10);
        x.constant(51);
        Check.due("at first, from 51", Check.quantizers(x), 45, 45, 45);
        x.setRange(20, 22);
        x.constant(22);
        Check.due("constant(22)", Check.quantizers(x), 20, 22, 22);
        x.control(51, 200);
        Check.due("control(51, 200) of a full buffer", Check.quantizers(x), 20, 20, 20);
        x.setBuffer(1000000, 0);
        x.control(0, 200);
        Check.due("control(0, 200) of an empty buffer", Check.quantizers(x), 22, 22, 22);
        x.distribute(120);
        Check.due("distribute(120)", Check.quantizers(x), 22, 22, 22);
        x.distribute(10000000);
        Check.due("distribute(10000000)", Check.quantizers(x), 20, 20, 20);
        x.setRange(51, 51);
        Check.due("the plan is older", Check.quantizers(x), 20, 20, 20);
        x.constant(0);
        Check.due("51 alone", Check.quantizers(x), 51, 51, 51);
        x.setRange(0, 0);
        x.constant(51);
        Check.due("0 alone", Check.quantizers(x), 0, 0, 0);
    }

    private static void zones() {
        Check.says("There are at most 6 zones, none at first");
        RatePlanner x = Check.wide(Check.clip(400, 100));
        Check.due("count(4)", x.count(4), 0);
        for (int zone = 1; zone <= 6; zone++) {
            Check.due("addZone(0, 0, 1)", x.addZone(0, 0, 1), zone);
            x.constant(20);
            Check.due("with " + zone, x.planned(0, 0), 17 + zone);
        }
        Check.due("a seventh", x.addZone(0, 0, 1), FULL);
        x.constant(20);
        Check.due("with 6 still", x.planned(0, 0), 23);
        Check.due("count(4)", x.count(4), 6);
    }

    private static void zoneFrames() {
        Check.says("a zone has a first and a last frame (which need not exist), and an offset from -10 to 10.");
        RatePlanner x = new RatePlanner();
        Check.due("addZone(59, 59, 10)", x.addZone(59, 59, 10), 1);
        Check.due("addZone(0, 0, -10)", x.addZone(0, 0, -10), 2);
        Check.due("addZone(2, 3, 5)", x.addZone(2, 3, 5), 3);
        for (int frame = 0; frame < 60; frame++) {
            x.append(100, 0);
        }
        x.setInterval(60);
        x.setBridges(0);
        x.constant(25);
        for (int frame = 0; frame < 60; frame++) {
            int due = frame == 0 ? 12 : frame == 59 ? 35 : frame == 2 || frame == 3 ? 30 : 25;
            Check.due("planned(" + frame + ", 0)", x.planned(frame, 0), due);
        }
        x.clearZones();
        x.addZone(0, 59, 1);
        x.constant(25);
        Check.due("all of 60", x.total(5), 60 * 26 - 3);
        x.drop();
        x.constant(25);
        Check.due("all of 59", x.total(5), 59 * 26 - 3);
    }

    private static void settling() {
        Check.says("To settle a quantizer for a frame means to add the offsets of all zones that contain the frame, and then"
            + " to limit it to the allowed range.");
        RatePlanner x = Check.wide(Check.clip(400, 100));
        zonesOfAll(x, 10, 10, 10, 10, 10, 10);
        x.constant(0);
        Check.due("-3 + 60", x.planned(0, 0), 51);
        zonesOfAll(x, -10, -10, -10, -10, -10, -10);
        x.constant(51);
        Check.due("48 - 60", x.planned(0, 0), 0);
        zonesOfAll(x, 10, -10);
        x.constant(51);
        Check.due("48 + 10 - 10", x.planned(0, 0), 48);
        zonesOfAll(x, -10, 10);
        x.constant(4);
        Check.due("1 - 10 + 10", x.planned(0, 0), 1);
        zonesOfAll(x, 5);
        x.constant(0);
        Check.due("-3 + 5", x.planned(0, 0), 2);
        zonesOfAll(x, 10, 10, 10, 10, 10, 1);
        x.constant(3);
        Check.due("0 + 51", x.planned(0, 0), 51);
        zonesOfAll(x, 10, 10, 10, 10, 10);
        x.constant(3);
        Check.due("0 + 50", x.planned(0, 0), 50);
    }

    private static final Call[] DISCARDING = {
        new Call("append", 400, 100), new Call("set", 0, 400, 100), new Call("drop"), new Call("load"),
        new Call("setInterval", 12), new Call("setBridges", 2)};

    private static final Call[] KEEPING = {
        new Call("type", 32), new Call("clear"), new Call("frame", 0, 0), new Call("coded", 0),
        new Call("setWeight", 0, 8), new Call("setRange", 51, 51), new Call("setBuffer", 100, 0),
        new Call("setRate", 0), new Call("addZone", 0, 59, 10), new Call("clearZones"), new Call("bitsAt", 0, 51),
        new Call("lossAt", 0, 51), new Call("planned", 0, 0), new Call("total", 0), new Call("scene", 0, 3),
        new Call("leastSize"), new Call("leastStart"), new Call("leastRate"), new Call("bestConstant"),
        new Call("demand", 0, 1), new Call("save", 0), new Call("count", 0), new Call("digest")};

    private static void discarding() {
        Check.says("Calls of append(), set(), drop(), load(), setInterval() and setBridges() that return no error discard"
            + " the plan.");
        for (Call call : DISCARDING) {
            RatePlanner x = Check.frames(2, 400, 100);
            x.constant(20);
            Check.holds(call + " is no error", call.on(x) >= 0);
            Check.due("the plan behind " + call, x.count(3), 0);
            Check.due("total(0) behind " + call, x.total(0), STATE);
        }
        for (Call call : DISCARDING) {
            for (int index = 0; index < call.arguments().length; index++) {
                RatePlanner x = Check.frames(2, 400, 100);
                x.constant(20);
                Check.due("a bad " + call, call.with(index, -1).on(x), BAD);
                Check.due("the plan behind a bad " + call, Check.quantizers(x), 17, 20);
            }
        }
    }

    private static void keeping() {
        Check.says("All other settings leave the quantizers of the plan as they are (weights change losses).");
        for (Call call : KEEPING) {
            RatePlanner x = Check.frames(2, 400, 100);
            x.constant(20);
            call.on(x);
            Check.due("the plan behind " + call, x.count(3), 1);
            Check.due("the plan behind " + call, Check.quantizers(x), 17, 20);
            Check.due("the bits behind " + call, x.total(0), 4484 + 1193);
            int weight = call.name().equals("setWeight") ? 8 : 4;
            Check.due("the losses behind " + call, x.total(1), weight * 3 * 72 * 72 / 16 + weight * 2 * 104 * 104 / 16);
        }
    }

    private static void bufferRanges() {
        Check.says("It has a size from 100 to 1000000 bits, at first 60000; a start from 0 to 100 percent, at first 90; and a"
            + " rate from 0 to 100000 bits per frame, at first 4000.");
        RatePlanner x = new RatePlanner();
        Check.due("start at first", x.count(8), 90);
        Check.due("size at first", x.setBuffer(100, 0), 60000);
        Check.due("the least size", x.setBuffer(1000000, 100), 100);
        Check.due("the greatest size", x.setBuffer(60000, 90), 1000000);
        Check.due("rate at first", x.setRate(0), 4000);
        Check.due("the least rate", x.setRate(100000), 0);
        Check.due("the greatest rate", x.setRate(4000), 100000);
        int[][] bad = {{99, 90}, {1000001, 90}, {60000, -1}, {60000, 101}};
        for (int[] row : bad) {
            Check.due("setBuffer(" + row[0] + ", " + row[1] + ")", x.setBuffer(row[0], row[1]), BAD);
        }
        Check.due("setRate(-1)", x.setRate(-1), BAD);
        Check.due("setRate(100001)", x.setRate(100001), BAD);
        Check.due("all as at first", x.digest(), new RatePlanner().digest());
    }

    private static void bufferAtFirst() {
        Check.says("Its content is at first size * start / 100.");
        RatePlanner x = Check.clip(400, 100);
        x.constant(20);
        Check.due("60000 * 90 / 100", x.planned(0, 3), 54000);
        int[][] due = {{100, 0, 0}, {100, 1, 1}, {100, 100, 100}, {199, 50, 99}, {101, 99, 99}, {101, 100, 101},
            {1000000, 0, 0}, {1000000, 1, 10000}, {1000000, 99, 990000}, {1000000, 100, 1000000}, {999999, 99, 989999}};
        for (int[] row : due) {
            x.setBuffer(row[0], row[1]);
            Check.due(row[0] + " * " + row[1] + " / 100", x.planned(0, 3), row[2]);
        }
        Check.says("Before each frame but the first one, the content increases by the rate");
        RatePlanner y = Check.frames(2, 400, 100);
        y.constant(20);
        y.setBuffer(1000000, 0);
        y.setRate(100000);
        Check.due("before the first", y.planned(0, 3), 0);
        Check.due("before the next", y.planned(1, 3), 100000);
        y.setBuffer(60000, 100);
        Check.due("stuffed before the first", y.planned(0, 6), 0);
        y.setRate(0);
        Check.due("without a rate", y.planned(1, 3), 60000 - 4484);
    }

    private static void stuffing() {
        Check.says("if it is greater than the size then, the surplus is stuffed, and the content is the size.");
        RatePlanner x = Check.clip(400, 100, 300, 50);
        x.constant(20);
        // 516 are left of 5000
        x.setBuffer(5000, 100);
        int[][] due = {{4483, 4999, 0}, {4484, 5000, 0}, {4485, 5000, 1}, {100000, 5000, 95516}};
        for (int[] row : due) {
            x.setRate(row[0]);
            Check.due("content with the rate " + row[0], x.planned(1, 3), row[1]);
            Check.due("stuffed with the rate " + row[0], x.planned(1, 6), row[2]);
            Check.due("all stuffed with the rate " + row[0], x.total(3), row[2]);
        }
    }

    private static void underflowing() {
        Check.says("if there are fewer, the frame underflows by the bits that lack, and the content is 0.");
        RatePlanner x = Check.clip(400, 100, 300, 50);
        x.constant(20);
        x.setRate(0);
        int[][] due = {{4485, 0, 1, 808}, {4484, 0, 0, 809}, {4483, 1, 0, 809}, {100, 4384, 0, 809}};
        for (int[] row : due) {
            x.setBuffer(row[0], 100);
            Check.due("lacking of " + row[0], x.planned(0, 5), row[1]);
            Check.due("content behind " + row[0], x.planned(0, 4), row[2]);
            Check.due("content before the next", x.planned(1, 3), row[2]);
            Check.due("lacking then", x.planned(1, 5), row[3]);
        }
        x.setBuffer(100, 0);
        Check.due("lacking of nothing", x.planned(0, 5), 4484);
        Check.due("both underflow", x.total(4), 2);
    }
}
