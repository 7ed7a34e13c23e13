import java.math.BigInteger;

/** The boundaries that the promises 27 to 38 name: what a plan is like, what would do, slots, counts and the hash. */
public final class AnswerEdgesTest {
    private static final int NONE = RatePlanner.NONE, BAD = RatePlanner.BAD, STATE = RatePlanner.STATE;

    public static void main(String[] args) {
        planned();
        plannedErrors();
        total();
        totalOfTheGreatest();
        scene();
        sceneErrors();
        leastSize();
        leastSizeAtItsEnds();
        leastStart();
        leastRate();
        bestConstant();
        demand();
        demandErrors();
        save();
        saveOfNothing();
        restore();
        restoreErrors();
        count();
        digest();
        digestWrapsAround();
        Check.end("AnswerEdgesTest");
    }

    /** Frames of 4484 and 809 bits. */
    private static RatePlanner pair() {
        RatePlanner x = Check.clip(400, 100, 300, 50);
        x.constant(20);
        return x;
    }

    /** One intra frame: the texture 3 takes 100 bits at 12, the texture 1 takes 101 at 2. */
    private static RatePlanner single(int texture, int quantizer) {
        RatePlanner x = Check.clip(texture, 0);
        x.constant(20);
        x.adjust(0, quantizer);
        return x;
    }

    private static RatePlanner greatest() {
        RatePlanner x = Check.frames(60, 4000, 4000);
        x.setInterval(1);
        x.setRange(0, 51);
        x.setWeight(0, 8);
        return x;
    }

    private static void planned() {
        Check.says("0: its quantizer; 1: its bits; 2: its loss; 3: the content of the buffer before its bits are taken out; 4:"
            + " the content after that; 5: the bits by which it underflows; 6: the bits that are stuffed before it");
        RatePlanner x = greatest();
        x.constant(0);
        Check.buffered(x, 1000000, 100, 100000);
        long[] first = {0, 320040, 150, 1000000, 679960, 0, 0};
        long[] last = {0, 320040, 150, 100000, 0, 220040, 0};
        for (int what = 0; what <= 6; what++) {
            Check.due("planned(0, " + what + ")", x.planned(0, what), first[what]);
            Check.due("planned(59, " + what + ")", x.planned(59, what), last[what]);
        }
        x.adjust(59, 51);
        x.adjust(58, 51);
        x.setBuffer(100, 0);
        long[] small = {51, 932, 19267584, 100, 0, 832, 99900};
        for (int what = 0; what <= 6; what++) {
            Check.due("planned(59, " + what + ")", x.planned(59, what), small[what]);
        }
        Check.due("lacking of nothing", x.planned(0, 5), 320040);
        Check.due("nothing is stuffed before the first", x.planned(0, 6), 0);
    }

    private static void plannedErrors() {
        Check.says("Returns the property; BAD; STATE if there is no plan.");
        RatePlanner x = Check.frames(60, 100, 0);
        Check.due("planned(59, 6) without a plan", x.planned(59, 6), STATE);
        Check.due("planned(60, 0) without a plan", x.planned(60, 0), BAD);
        Check.due("planned(0, 7) without a plan", x.planned(0, 7), BAD);
        x.constant(20);
        Check.due("planned(59, 0)", x.planned(59, 0), 20);
        Check.due("planned(60, 0)", x.planned(60, 0), BAD);
        Check.due("planned(-1, 0)", x.planned(-1, 0), BAD);
        Check.due("planned(0, 7)", x.planned(0, 7), BAD);
        Check.due("planned(0, -1)", x.planned(0, -1), BAD);
        Check.due("of no frames", new RatePlanner().planned(0, 0), BAD);
    }

    private static long[] totals(RatePlanner x) {
        long[] row = new long[7];
        for (int what = 0; what < row.length; what++) {
            row[what] = x.total(what);
        }
        return row;
    }

    private static void total() {
        Check.says("0: all bits; 1: all losses; 2: the bits of all underflows; 3: all stuffed bits; 4: the number of frames that"
            + " underflow; 5: the sum of all quantizers; 6: the sum of the changes (without signs) of quantizers from place"
            + " to place");
        RatePlanner one = single(400, 20);
        Check.due("of one frame", totals(one), 3116, 8112, 0, 0, 0, 20, 0);
        Check.buffered(one, 3115, 100, 100000);
        Check.due("of one frame that lacks a bit", totals(one), 3116, 8112, 1, 0, 1, 20, 0);
        RatePlanner x = Check.frames(4, 400, 100);
        x.constant(20);
        int[] quantizers = {0, 51, 0, 51};
        for (int frame = 0; frame < 4; frame++) {
            x.adjust(frame, quantizers[frame]);
        }
        // in the order 0, 3, 1, 2
        Check.due("changes up and down", x.total(6), 51 + 0 + 51);
        RatePlanner scenes = Check.clip(100, 0, 100, 151, 100, 151);
        scenes.constant(20);
        Check.adjust(scenes, 10, 40, 35);
        Check.due("changes from scene to scene", scenes.total(6), 30 + 5);
        Check.due("total(-1)", x.total(-1), BAD);
        Check.due("total(7)", x.total(7), BAD);
        x.drop();
        Check.due("without a plan", x.total(6), STATE);
        Check.due("bad without a plan", x.total(7), BAD);
        Check.due("of no frames", new RatePlanner().total(0), STATE);
    }

    private static void totalOfTheGreatest() {
        RatePlanner x = greatest();
        Check.buffered(x, 100, 0, 100000);
        x.constant(0);
        Check.due("60 frames at 0", totals(x),
            60 * 320040, 60 * 150, 60 * 320040 - 59 * 100, 59 * 99900, 60, 0, 0);
        x.setRange(51, 51);
        x.constant(0);
        Check.due("60 frames at 51", totals(x),
            60 * 932, 60L * 19267584, 60 * 932 - 59 * 100, 59 * 99900, 60, 60 * 51, 0);
        for (int frame = 0; frame < 60; frame += 2) {
            x.adjust(frame, 0);
        }
        Check.due("59 changes", x.total(6), 59 * 51);
    }

    private static void scene() {
        Check.says("0: its first frame; 1: the number of its frames; 2: its weight; 3: its bits in the plan; 4: 10 * (the sum of"
            + " its quantizers) / (the number of its frames); 5: the number of its intra frames");
        RatePlanner whole = greatest();
        whole.constant(0);
        long[] due = {0, 60, 8, 60 * 320040, 0, 60};
        for (int what = 0; what <= 5; what++) {
            Check.due("of 60 frames scene(0, " + what + ")", whole.scene(0, what), due[what]);
        }
        whole.setInterval(60);
        Check.due("one intra frame of 60", whole.scene(0, 5), 1);
        RatePlanner cuts = Check.frames(60, 10, 16);
        cuts.constant(20);
        cuts.setWeight(59, 1);
        // 8000 / 72
        long[] last = {59, 1, 1, 151, 170, 1};
        for (int what = 0; what <= 5; what++) {
            Check.due("of 60 scenes scene(59, " + what + ")", cuts.scene(59, what), last[what]);
        }
        RatePlanner single = single(400, 20);
        long[] one = {0, 1, 4, 3116, 200, 1};
        for (int what = 0; what <= 5; what++) {
            Check.due("of one frame scene(0, " + what + ")", single.scene(0, what), one[what]);
        }
        RatePlanner bridges = Check.frames(4, 400, 100);
        bridges.constant(20);
        Check.due("bits of intra, forward and bridge", bridges.scene(0, 3), 4484 + 1193 + 508 + 508);
        Check.due("10 * (17 + 20 + 22 + 22) / 4", bridges.scene(0, 4), 202);
        RatePlanner mean = Check.frames(3, 400, 100);
        mean.constant(20);
        mean.adjust(0, 0);
        mean.adjust(1, 0);
        mean.adjust(2, 2);
        Check.due("10 * 2 / 3", mean.scene(0, 4), 6);
        mean.adjust(2, 51);
        mean.adjust(1, 51);
        mean.adjust(0, 51);
        Check.due("10 * 153 / 3", mean.scene(0, 4), 510);
    }

    private static void sceneErrors() {
        Check.says("Returns the number; BAD; STATE if there is no plan, and what is 3 or 4.");
        RatePlanner x = Check.frames(6, 100, 0);
        x.setInterval(2);
        Check.due("groups", x.count(2), 3);
        Check.due("groups are no scenes: scene(1, 0)", x.scene(1, 0), BAD);
        x.set(3, 100, 151);
        long[] due = {3, 3, 4, STATE, STATE, 2};
        for (int what = 0; what <= 5; what++) {
            Check.due("scene(1, " + what + ")", x.scene(1, what), due[what]);
            Check.due("scene(2, " + what + ")", x.scene(2, what), BAD);
            Check.due("scene(-1, " + what + ")", x.scene(-1, what), BAD);
            Check.due("of no frames", new RatePlanner().scene(0, what), BAD);
        }
        Check.due("scene(1, 6)", x.scene(1, 6), BAD);
        Check.due("scene(1, -1)", x.scene(1, -1), BAD);
        x.constant(20);
        Check.due("scene(2, 3)", x.scene(2, 3), BAD);
        Check.due("scene(1, 6)", x.scene(1, 6), BAD);
    }

    private static void leastSize() {
        Check.says("Finds the least size of the buffer, with its start and rate, with which no frame of the plan underflows.");
        // size * 90 / 100 is 4484 from 4983 on
        RatePlanner x = pair();
        Check.due("with the start 90", x.leastSize(), 4983);
        x.setBuffer(4983, 90);
        Check.due("with that", x.total(4), 0);
        x.setBuffer(4982, 90);
        Check.due("with one less", x.total(4), 1);
        Check.due("whatever the size is", x.leastSize(), 4983);
        Check.buffered(x, 100, 100, 809);
        Check.due("809 come for 809", x.leastSize(), 4484);
        x.setRate(808);
        Check.due("808 come for 809", x.leastSize(), 4485);
        x.setRate(100000);
        Check.due("a size less than the rate", x.leastSize(), 4484);
        x.setBuffer(100, 0);
        Check.due("nothing at first", x.leastSize(), NONE);
        x.setBuffer(100, 1);
        Check.due("a hundredth at first", x.leastSize(), 448400);
        RatePlanner y = Check.clip(100, 0, 300, 50);
        y.constant(20);
        y.adjust(0, 45);
        // 84 bits, then 809 of what the size can hold
        Check.buffered(y, 100, 100, 100000);
        Check.due("the second wants the size", y.leastSize(), 809);
    }

    private static void leastSizeAtItsEnds() {
        Check.says("Returns the size, 100 to 1000000; STATE if there is no plan; NONE if there is none.");
        RatePlanner hundred = Check.buffered(single(3, 12), 5000, 100, 0);
        Check.due("bits", hundred.total(0), 100);
        Check.due("for 100 bits", hundred.leastSize(), 100);
        Check.due("for 66 bits", Check.buffered(single(3, 22), 5000, 100, 0).leastSize(), 100);
        RatePlanner more = Check.buffered(single(1, 2), 5000, 100, 0);
        Check.due("bits", more.total(0), 101);
        Check.due("for 101 bits", more.leastSize(), 101);
        more.setBuffer(5000, 99);
        Check.due("for 101 bits of 99 percent", more.leastSize(), 103);
        // 3 * 320040 + 319960 bits are 1280080
        RatePlanner great = Check.clip(4000, 0, 4000, 0, 4000, 0, 3999, 0);
        great.setInterval(1);
        great.setRange(0, 51);
        great.constant(0);
        Check.due("bits", great.total(0), 1280080);
        Check.due("the greatest size", Check.buffered(great, 100, 100, 93360).leastSize(), 1000000);
        Check.due("beyond the greatest size", Check.buffered(great, 100, 100, 93359).leastSize(), NONE);
        Check.due("less than the greatest size", Check.buffered(great, 100, 100, 93361).leastSize(), 999997);
        great.setBridges(2);
        Check.due("without a plan", great.leastSize(), STATE);
        Check.due("of no frames", new RatePlanner().leastSize(), STATE);
    }

    private static void leastStart() {
        Check.says("Finds the least start of the buffer, with its size and rate, with which no frame of the plan underflows."
            + " Returns the start, 0 to 100; STATE if there is no plan; NONE if there is none.");
        Check.due("100 bits of 100", Check.buffered(single(3, 12), 100, 0, 0).leastStart(), 100);
        Check.due("100 bits of 101", Check.buffered(single(3, 12), 101, 0, 0).leastStart(), 100);
        Check.due("100 bits of 102", Check.buffered(single(3, 12), 102, 100, 0).leastStart(), 99);
        Check.due("100 bits of 200", Check.buffered(single(3, 12), 200, 0, 0).leastStart(), 50);
        Check.due("100 bits of 199", Check.buffered(single(3, 12), 199, 0, 0).leastStart(), 51);
        Check.due("100 bits of 10000", Check.buffered(single(3, 12), 10000, 90, 0).leastStart(), 1);
        Check.due("100 bits of 9999", Check.buffered(single(3, 12), 9999, 90, 0).leastStart(), 2);
        Check.due("100 bits of 1000000", Check.buffered(single(3, 12), 1000000, 90, 0).leastStart(), 1);
        // 40 bits at least are taken at once, so that a start of 0 never will do
        Check.due("40 bits of 1000000", Check.buffered(single(1, 51), 1000000, 0, 100000).leastStart(), 1);
        Check.due("101 bits of 100", Check.buffered(single(1, 2), 100, 100, 0).leastStart(), NONE);
        RatePlanner x = Check.buffered(pair(), 4484, 0, 809);
        Check.due("4484 bits and 809 then", x.leastStart(), 100);
        x.setRate(808);
        Check.due("808 come for 809", x.leastStart(), NONE);
        Check.due("without a plan", Check.clip(1, 0).leastStart(), STATE);
        Check.due("of no frames", new RatePlanner().leastStart(), STATE);
    }

    private static void leastRate() {
        Check.says("Finds the least rate, with the size and start of the buffer, with which no frame of the plan underflows."
            + " Returns the rate, 0 to 100000; STATE if there is no plan; NONE if there is none.");
        RatePlanner x = Check.buffered(pair(), 5293, 100, 7);
        Check.due("nothing need come", x.leastRate(), 0);
        Check.due("one bit must come", Check.buffered(x, 5292, 100, 100000).leastRate(), 1);
        Check.due("all must come", Check.buffered(x, 4484, 100, 0).leastRate(), 809);
        Check.due("the first lacks a bit", Check.buffered(x, 4483, 100, 0).leastRate(), NONE);
        Check.due("of a single frame", Check.buffered(single(3, 12), 100, 100, 5).leastRate(), 0);
        // 5000 bits, and then 100000 or 100020 of those that come
        RatePlanner great = Check.clip(62, 0, 2000, 1499);
        great.setRange(0, 51);
        great.constant(3);
        great.adjust(1, 0);
        Check.due("bits", great.total(0), 5000 + 100000);
        Check.due("the greatest rate", Check.buffered(great, 500000, 1, 0).leastRate(), 100000);
        Check.due("a bit is left", Check.buffered(great, 500100, 1, 0).leastRate(), 99999);
        great.set(1, 2001, 1499);
        great.constant(3);
        great.adjust(1, 0);
        Check.due("bits", great.total(0), 5000 + 100020);
        Check.due("beyond the greatest rate", Check.buffered(great, 500000, 1, 0).leastRate(), NONE);
        Check.due("the size is too small, whatever comes", Check.buffered(great, 100019, 5, 0).leastRate(), NONE);
        great.drop();
        Check.due("without a plan", great.leastRate(), STATE);
        Check.due("of no frames", new RatePlanner().leastRate(), STATE);
    }

    private static void bestConstant() {
        Check.says("Finds the least quantizer for which constant() would give a plan in which no frame underflows. Returns the"
            + " quantizer, 0 to 51; STATE if there are no frames; NONE if there is none.");
        RatePlanner x = Check.clip(400, 0);
        x.setRange(0, 51);
        // 32040 bits at 0, 165 at 48 and 179 at 47
        Check.due("for 32040 bits", Check.buffered(x, 32040, 100, 0).bestConstant(), 0);
        Check.due("for 32039 bits", Check.buffered(x, 32039, 100, 0).bestConstant(), 4);
        Check.due("for 177 bits", Check.buffered(x, 177, 100, 0).bestConstant(), 51);
        Check.due("for 165 bits", Check.buffered(x, 165, 100, 0).bestConstant(), 51);
        Check.due("for 164 bits", Check.buffered(x, 164, 100, 0).bestConstant(), NONE);
        x.addZone(0, 0, 3);
        // 129 bits at 51
        Check.due("for 129 bits with a zone", Check.buffered(x, 129, 100, 0).bestConstant(), 51);
        Check.due("for 128 bits with a zone", Check.buffered(x, 128, 100, 0).bestConstant(), NONE);
        x.clearZones();
        x.setRange(51, 51);
        Check.due("what is allowed alone", Check.buffered(x, 129, 100, 0).bestConstant(), 0);
        x.setRange(0, 47);
        Check.due("what is not allowed", Check.buffered(x, 165, 100, 0).bestConstant(), NONE);
        Check.due("no plan is made", x.count(3), 0);
        x.constant(20);
        x.adjust(0, 33);
        x.bestConstant();
        Check.due("the plan stays", x.planned(0, 0), 33);
        x.drop();
        Check.due("of no frames", x.bestConstant(), STATE);
    }

    private static void demand() {
        Check.says("the greatest value, over all places p from a to b, where a is the place, of the bits of the frames at the"
            + " places from a to p minus the rate times (p - a).");
        RatePlanner x = Check.frames(4, 400, 100);
        x.constant(20);
        // 4484, 1193, 508 and 508 bits by place
        int[][] due = {
            // rate, first, last, value
            {0, 0, 0, 4484}, {0, 3, 3, 508}, {0, 0, 3, 6693}, {0, 1, 3, 2209}, {0, 0, 1, 5677}, {1193, 0, 1, 4484},
            {1192, 0, 1, 4485}, {1194, 0, 1, 4484}, {508, 1, 3, 1193}, {507, 1, 3, 1195}, {509, 1, 3, 1193},
            {507, 1, 2, 1194}, {100000, 0, 3, 4484}, {100000, 2, 3, 508}, {508, 0, 3, 5169}};
        for (int[] row : due) {
            x.setRate(row[0]);
            Check.due("demand(" + row[1] + ", " + row[2] + ") at " + row[0], x.demand(row[1], row[2]), row[3]);
        }
        // 41, 41 and 8040 bits: less than nothing at the second place counts at the third
        RatePlanner late = Check.clip(1, 0, 1, 0, 400, 0);
        late.setInterval(1);
        late.setRate(3000);
        late.constant(20);
        Check.adjust(late, 33, 33, 12);
        Check.due("demand(0, 1) of little", late.demand(0, 1), 41);
        Check.due("demand(0, 2) of much at last", late.demand(0, 2), 41 + 41 + 8040 - 2 * 3000);
        Check.due("demand(1, 2) of much at last", late.demand(1, 2), 41 + 8040 - 3000);
        RatePlanner most = greatest();
        most.constant(0);
        most.setRate(0);
        Check.due("demand(0, 59)", most.demand(0, 59), 60 * 320040);
        most.setRate(100000);
        Check.due("demand(0, 59) at 100000", most.demand(0, 59), 60 * 320040 - 59 * 100000);
        Check.due("demand(59, 59) at 100000", most.demand(59, 59), 320040);
    }

    private static void demandErrors() {
        Check.says("first: the place a; last: the place b, not less than a. Returns the value; BAD; STATE if there is no plan.");
        RatePlanner x = Check.frames(60, 100, 0);
        Check.due("demand(0, 59) without a plan", x.demand(0, 59), STATE);
        Check.due("demand(0, 60) without a plan", x.demand(0, 60), BAD);
        x.constant(20);
        Check.due("demand(-1, 0)", x.demand(-1, 0), BAD);
        Check.due("demand(-1, -1)", x.demand(-1, -1), BAD);
        Check.due("demand(1, 0)", x.demand(1, 0), BAD);
        Check.due("demand(59, 58)", x.demand(59, 58), BAD);
        Check.due("demand(59, 60)", x.demand(59, 60), BAD);
        Check.due("demand(60, 60)", x.demand(60, 60), BAD);
        Check.holds("demand(59, 59)", x.demand(59, 59) > 0);
        Check.holds("demand(0, 59)", x.demand(0, 59) > 0);
        Check.due("of no frames", new RatePlanner().demand(0, 0), BAD);
    }

    private static void save() {
        Check.says("Saves clip, settings and plan in a slot, in place of what it holds. slot: 0 or 1. Returns the number of"
            + " frames; BAD.");
        RatePlanner x = pair();
        Check.due("save(-1)", x.save(-1), BAD);
        Check.due("save(2)", x.save(2), BAD);
        Check.due("nothing was saved", x.restore(0), STATE);
        Check.due("nothing was saved", x.restore(1), STATE);
        Check.due("save(0)", x.save(0), 2);
        Check.due("the other slot", x.restore(1), STATE);
        x.append(5, 0);
        Check.due("save(1) without a plan", x.save(1), 3);
        Check.due("restore(0)", x.restore(0), 2);
        Check.due("its plan", Check.quantizers(x), 17, 20);
        Check.due("restore(1)", x.restore(1), 3);
        Check.due("no plan", x.count(3), 0);
        Check.due("save(0) in place of what it holds", x.save(0), 3);
        x.drop();
        Check.due("restore(0)", x.restore(0), 3);
        Check.due("no plan there, either", x.count(3), 0);
        RatePlanner most = Check.frames(60, 100, 0);
        Check.due("save(1) of 60", most.save(1), 60);
        Check.write(most, "1/0");
        most.load();
        Check.due("save(1) of one", most.save(1), 1);
        Check.due("restore(1)", most.restore(1), 1);
        Check.due("nothing is left of the 60", most.frame(1, 0), BAD);
    }

    private static void saveOfNothing() {
        RatePlanner x = new RatePlanner();
        Check.due("save(0) of no frames", x.save(0), 0);
        x.setRate(5);
        x.append(1, 0);
        Check.due("restore(0)", x.restore(0), 0);
        Check.due("frames", x.count(0), 0);
        Check.due("rate", x.count(9), 4000);
        Check.due("digest()", x.digest(), new RatePlanner().digest());
    }

    private static void restore() {
        Check.says("Restores what a slot holds. Returns the number of frames; BAD; STATE if nothing was saved in it.");
        RatePlanner x = pair();
        x.setWeight(0, 8);
        x.setWeight(59, 1);
        for (int zone = 0; zone < 6; zone++) {
            x.addZone(0, 59, zone);
        }
        x.setRange(0, 51);
        x.save(1);
        long saved = x.digest();
        for (int turn = 0; turn < 2; turn++) {
            // what changes behind save() doesn't change the slot
            x.adjust(0, 51);
            x.setWeight(0, 1);
            x.setWeight(59, 2);
            x.clearZones();
            x.addZone(0, 59, -10);
            x.setRange(9, 9);
            x.setBuffer(100, 1);
            x.set(0, 1, 1);
            x.append(2, 2);
            x.setInterval(1);
            x.setBridges(0);
            Check.due("restore(1)", x.restore(1), 2);
            Check.due("digest()", x.digest(), saved);
            Check.due("weight", x.setWeight(59, 1), 1);
            Check.due("range", x.setRange(0, 51), 51);
            Check.due("the plan", Check.quantizers(x), 17, 20);
        }
        x.constant(20);
        Check.due("all six zones", Check.quantizers(x), 32, 35);
        Check.write(x, "1/0");
        Check.due("restore(1)", x.restore(1), 2);
        Check.due("the text is no part of it", x.count(10), 3);
        Check.due("the text is no part of it", x.load(), 1);
    }

    private static void restoreErrors() {
        RatePlanner x = pair();
        Check.due("restore(0)", x.restore(0), STATE);
        Check.due("restore(1)", x.restore(1), STATE);
        Check.due("restore(-1)", x.restore(-1), BAD);
        Check.due("restore(2)", x.restore(2), BAD);
        Check.due("the plan stays", Check.quantizers(x), 17, 20);
        x.save(1);
        x.adjust(0, 3);
        Check.due("restore(0)", x.restore(0), STATE);
        Check.due("restore(2)", x.restore(2), BAD);
        Check.due("the plan stays", Check.quantizers(x), 3, 20);
        Check.due("restore(1)", x.restore(1), 2);
    }

    private static void count() {
        Check.says("0: frames; 1: scenes; 2: groups; 3: 1 if there is a plan, otherwise 0; 4: zones; 5: the interval; 6: the"
            + " number of bridges; 7: the size of the buffer; 8: its start; 9: the rate; 10: bytes of the text");
        RatePlanner most = Check.frames(60, 10, 16);
        most.setInterval(60);
        most.setBridges(3);
        Check.buffered(most, 1000000, 100, 100000);
        for (int zone = 0; zone < 6; zone++) {
            most.addZone(0, 0, 0);
        }
        Check.write(most, ";".repeat(100));
        most.constant(51);
        long[] greatest = {60, 60, 60, 1, 6, 60, 3, 1000000, 100, 100000, 100};
        RatePlanner least = new RatePlanner();
        least.setInterval(1);
        least.setBridges(0);
        Check.buffered(least, 100, 0, 0);
        long[] none = {0, 0, 0, 0, 0, 1, 0, 100, 0, 0, 0};
        for (int what = 0; what <= 10; what++) {
            Check.due("the greatest count(" + what + ")", most.count(what), greatest[what]);
            Check.due("the least count(" + what + ")", least.count(what), none[what]);
        }
        Check.due("count(-1)", most.count(-1), BAD);
        Check.due("count(11)", most.count(11), BAD);
        most.setBridges(3);
        Check.due("the plan is gone", most.count(3), 0);
    }

    /** The document's hash in numbers of any size, cut down to a long at the end alone. */
    private static BigInteger hash(RatePlanner x, String text) {
        BigInteger hash = BigInteger.valueOf(367);
        for (int what = 0; what <= 10; what++) {
            hash = next(hash, x.count(what));
        }
        for (int frame = 0; frame < x.count(0); frame++) {
            for (int what = 0; what <= 7; what++) {
                hash = next(hash, x.frame(frame, what));
            }
            for (int what = 0; x.count(3) == 1 && what <= 6; what++) {
                hash = next(hash, x.planned(frame, what));
            }
        }
        for (int scene = 0; scene < x.count(1); scene++) {
            for (int what = 0; what <= 2; what++) {
                hash = next(hash, x.scene(scene, what));
            }
        }
        for (int what = 0; x.count(3) == 1 && what <= 6; what++) {
            hash = next(hash, x.total(what));
        }
        for (char letter : text.toCharArray()) {
            hash = next(hash, letter);
        }
        return hash;
    }

    private static BigInteger next(BigInteger hash, long number) {
        return hash.multiply(BigInteger.valueOf(31)).add(BigInteger.valueOf(number));
    }

    private static void digest() {
        Check.says("It is 367 at first; for each of the following numbers, in this order, it becomes 31 times itself plus the"
            + " number (long arithmetic with overflow): count(0) to count(10); for each frame frame(i, 0) to frame(i, 7) and,"
            + " if there is a plan, planned(i, 0) to planned(i, 6); for each scene scene(s, 0) to scene(s, 2); if there is a"
            + " plan, total(0) to total(6); the bytes of the text.");
        RatePlanner x = new RatePlanner();
        Check.due("digest() of a new object", x.digest(), hash(x, "").longValue());
        x.type(0);
        Check.due("digest() of the byte 0", x.digest(), hash(x, "\0").longValue());
        x.type(127);
        Check.due("digest() of the bytes 0 and 127", x.digest(), hash(x, "\0\u007f").longValue());
        x.clear();
        x.append(1, 0);
        Check.due("digest() of a frame", x.digest(), hash(x, "").longValue());
        x.constant(51);
        Check.due("digest() of a plan", x.digest(), hash(x, "").longValue());
        x.drop();
        Check.due("digest() of no frames again", x.digest(), new RatePlanner().digest());
    }

    private static void digestWrapsAround() {
        Check.says("(long arithmetic with overflow)");
        RatePlanner x = new RatePlanner();
        Check.holds("a new object's is beyond a long", hash(x, "").bitLength() > 63);
        RatePlanner cuts = Check.buffered(Check.frames(12, 10, 16), 100, 0, 100000);
        cuts.constant(20);
        String text = "z".repeat(100);
        Check.write(cuts, text);
        long due = hash(cuts, text).longValue();
        Check.due("digest() of a great number", cuts.digest(), due);
        Check.due("digest() again", cuts.digest(), due);
    }
}
