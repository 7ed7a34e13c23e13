/** The boundaries that the promises 20 to 23 and 26 name: making plans, smoothing and adjusting them. */
public final class MakingEdgesTest {
    private static final int BAD = RatePlanner.BAD, STATE = RatePlanner.STATE;

    public static void main(String[] args) {
        constant();
        underflowsOfConstant();
        control();
        controlInCodingOrder();
        controlAtTheEnds();
        distributeRoots();
        distributeTargets();
        distributeRange();
        distributeErrors();
        smooth();
        smoothChain();
        smoothScenes();
        smoothErrors();
        adjust();
        Check.end("MakingEdgesTest");
    }

    private static void made(RatePlanner x, int quantizer, long... due) {
        Check.holds("constant(" + quantizer + ")", x.constant(quantizer) >= 0);
        Check.due("of constant(" + quantizer + ")", Check.quantizers(x), due);
    }

    private static void constant() {
        Check.says("for each frame the quantizer minus 3 if it is intra, as it is if it is forward, and plus 2 if it is a"
            + " bridge, settled. quantizer: 0 to 51");
        RatePlanner x = Check.wide(Check.frames(4, 400, 100));
        made(x, 0, 0, 2, 2, 0);
        made(x, 2, 0, 4, 4, 2);
        made(x, 3, 0, 5, 5, 3);
        made(x, 4, 1, 6, 6, 4);
        made(x, 49, 46, 51, 51, 49);
        made(x, 50, 47, 51, 51, 50);
        made(x, 51, 48, 51, 51, 51);
        x.addZone(0, 3, -10);
        made(x, 51, 38, 43, 43, 41);
        made(x, 0, 0, 0, 0, 0);
        x.clearZones();
        x.addZone(0, 3, 10);
        made(x, 0, 7, 12, 12, 10);
        made(x, 51, 51, 51, 51, 51);
        Check.due("constant(-1)", x.constant(-1), BAD);
        Check.due("constant(52)", x.constant(52), BAD);
        Check.due("the plan stays", Check.quantizers(x), 51, 51, 51, 51);
    }

    private static void underflowsOfConstant() {
        Check.says("Returns the number of frames that underflow; BAD; STATE if there are no frames.");
        RatePlanner x = Check.frames(60, 400, 100);
        x.setBuffer(100, 0);
        x.setRate(0);
        Check.due("all of 60", x.constant(51), 60);
        Check.due("all of 60", x.total(4), 60);
        x.setBuffer(1000000, 100);
        Check.due("none of 60", x.constant(51), 0);
        RatePlanner one = Check.clip(400, 100);
        one.setBuffer(4484, 100);
        Check.due("exactly enough", one.constant(20), 0);
        one.setBuffer(4483, 100);
        Check.due("a bit less", one.constant(20), 1);
        Check.due("there is a plan all the same", one.planned(0, 0), 17);
        one.drop();
        Check.due("of no frames", one.constant(20), STATE);
        Check.due("no plan then", one.count(3), 0);
    }

    private static void control() {
        Check.says("the quantizer of each is base + (size / 2 - content) * gain / size ... minus 3 for an intra frame and plus"
            + " 2 for a bridge, settled. base: 0 to 51; gain: 0 to 200");
        RatePlanner x = Check.wide(Check.clip(400, 0));
        int[][] due = {
            // size, start, base, gain, quantizer
            {1000, 50, 20, 200, 17}, {1000, 51, 20, 200, 15}, {1000, 49, 20, 200, 19}, {1000, 0, 20, 0, 17},
            {1000, 100, 20, 0, 17}, {1000, 0, 0, 200, 51}, {1000, 100, 51, 200, 0}, {1000, 0, 0, 107, 50},
            {1000, 0, 0, 108, 51}, {1000, 0, 0, 7, 0}, {1000, 0, 0, 8, 1}, {1000, 100, 51, 96, 0}, {1000, 100, 51, 94, 1},
            {1000000, 0, 0, 100, 47}, {1000000, 100, 51, 90, 3}, {100, 100, 51, 90, 3}};
        for (int[] row : due) {
            x.setBuffer(row[0], row[1]);
            Check.holds("control", x.control(row[2], row[3]) >= 0);
            Check.due("of base " + row[2] + ", gain " + row[3] + ", buffer " + row[0] + ", " + row[1], x.planned(0, 0), row[4]);
        }
        x.setBuffer(1000, 0);
        x.addZone(0, 0, -10);
        x.control(51, 20);
        Check.due("51 + 10 - 3 - 10, limited at last", x.planned(0, 0), 48);
        x.clearZones();
        x.addZone(0, 0, 5);
        x.control(0, 0);
        Check.due("0 - 3 + 5, limited at last", x.planned(0, 0), 2);
        RatePlanner bridges = Check.wide(Check.frames(3, 400, 0));
        bridges.control(20, 0);
        Check.due("without a gain", Check.quantizers(bridges), 17, 22, 20);
        bridges.control(51, 0);
        Check.due("without a gain", Check.quantizers(bridges), 48, 51, 51);
        bridges.control(0, 0);
        Check.due("without a gain", Check.quantizers(bridges), 0, 2, 0);
    }

    private static void controlInCodingOrder() {
        Check.says("Frames pass the buffer in coding order; ... where content is that of the buffer before its bits are taken"
            + " out");
        RatePlanner x = Check.wide(Check.clip(400, 100, 200, 50, 300, 100, 400, 100));
        x.setBuffer(10000, 50);
        x.setRate(1000);
        // frame 0: 20 + 0 - 3, 4484 bits, 516 left; frame 3: 20 + 3484 * 40 / 10000, 307 bits, 1209 left;
        // frame 1: 20 + 2791 * 40 / 10000 + 2, 106 bits, 2103 left; frame 2: 20 + 1897 * 40 / 10000 + 2
        Check.due("control(20, 40)", x.control(20, 40), 0);
        Check.due("of control(20, 40)", Check.quantizers(x), 17, 33, 29, 33);
        Check.due("content before frame 2", x.planned(2, 3), 3103);
        // 4484 of 10000 bits are taken out at 17; then 100 or 99 bits are lacking to half of the size, by 200 / 20000
        RatePlanner exact = Check.wide(Check.frames(2, 400, 0));
        exact.setInterval(1);
        exact.setBuffer(20000, 50);
        exact.setRate(4384);
        exact.control(20, 200);
        Check.due("9900 bits behind the first frame", Check.quantizers(exact), 17, 18);
        exact.setRate(4385);
        exact.control(20, 200);
        Check.due("9901 bits behind the first frame", Check.quantizers(exact), 17, 17);
    }

    private static void controlAtTheEnds() {
        RatePlanner x = Check.wide(Check.frames(3, 400, 0));
        x.setBridges(0);
        x.setBuffer(10000, 100);
        x.setRate(100000);
        // full before each frame, whatever is stuffed: -5000 * 20 / 10000
        Check.due("control(30, 20)", x.control(30, 20), 0);
        Check.due("always full", Check.quantizers(x), 17, 20, 20);
        x.setRate(0);
        x.setBuffer(1000, 100);
        // the first lacks bits and leaves 0: 500 * 20 / 1000 then
        Check.due("control(20, 20)", x.control(20, 20), 3);
        Check.due("empty behind the first", Check.quantizers(x), 7, 30, 30);
        Check.due("control(-1, 0)", x.control(-1, 0), BAD);
        Check.due("control(52, 0)", x.control(52, 0), BAD);
        Check.due("control(0, -1)", x.control(0, -1), BAD);
        Check.due("control(0, 201)", x.control(0, 201), BAD);
        Check.due("the plan stays", Check.quantizers(x), 7, 30, 30);
        Check.due("of no frames", new RatePlanner().control(51, 200), STATE);
    }

    private static void distributeRoots() {
        Check.says("the share of a frame is the root of work * weight * 64, rounded down");
        RatePlanner x = Check.wide(Check.clip(400, 100, 200, 100));
        // works 1600 and 400: 102400 and 25600 are the squares of 320 and 160 at the weight 1
        x.setWeight(0, 1);
        // frame 1: (bits - 80) * 160 / 480 is 769, as much as 80000 / 104
        x.distribute(2387);
        Check.due("exact roots", x.planned(1, 0), 20);
        x.distribute(2386);
        Check.due("exact roots, a bit less", x.planned(1, 0), 21);
        // works 4 and 15 at the weight 1: the roots 16 and 30, for 960 is a little less than the square of 31
        RatePlanner y = Check.wide(Check.clip(1, 0, 11, 2));
        y.setWeight(0, 1);
        // frame 1: (bits - 80) * 30 / 46 is 300 from 460 on
        y.distribute(540);
        Check.due("a root rounded down", y.planned(1, 0), 0);
        y.distribute(539);
        Check.due("a root rounded down, a bit less", y.planned(1, 0), 1);
        // works 16000 and 1600 at the weights 8 and 4: the roots 2862 and 640; frame 1: 16832 * 640 / 3502 is 3076
        RatePlanner great = Check.wide(Check.clip(4000, 0, 400, 601));
        great.setWeight(0, 8);
        great.distribute(80 + 16832);
        Check.due("the greatest root", great.planned(1, 0), 20);
        great.distribute(80 + 16831);
        Check.due("the greatest root, a bit less", great.planned(1, 0), 21);
        // works 4, 0, 0 and 1: the roots 32, 0, 0 and 16; frame 0: 120 * 32 / 48 is 80, as much as 800 / 10
        RatePlanner idle = Check.wide(Check.load("1/0*4"));
        idle.distribute(280);
        Check.due("no share without work", Check.quantizers(idle), 0, 0, 0, 0);
        idle.distribute(279);
        Check.due("no share without work, a bit less", Check.quantizers(idle), 1, 0, 0, 0);
    }

    private static void distributeTargets() {
        Check.says("The target of a frame is 40 + (bits - 40 * n) * (its share) / S. Its quantizer is the least one of the"
            + " allowed range with which it takes no more bits than the target");
        RatePlanner x = Check.wide(Check.clip(400, 0));
        int[][] due = {{10000000, 0}, {32040, 0}, {32039, 1}, {8040, 12}, {8039, 13}, {129, 51}, {128, 51}, {40, 51}};
        for (int[] row : due) {
            Check.holds("distribute", x.distribute(row[0]) >= 0);
            Check.due("of distribute(" + row[0] + ")", x.planned(0, 0), row[1]);
        }
        RatePlanner equal = Check.wide(Check.frames(60, 400, 0));
        equal.setInterval(1);
        equal.distribute(60 * 8040);
        Check.due("8040 bits for each of 60", equal.total(5), 60 * 12);
        equal.distribute(60 * 8040 - 1);
        Check.due("a bit less", equal.total(5), 60 * 13);
        RatePlanner most = Check.wide(Check.frames(60, 4000, 0));
        most.setInterval(1);
        most.setWeight(0, 8);
        most.distribute(10000000);
        // 40 + 9997600 / 60 is 166666; 3200000 / 18 is 177777 and 3200000 / 20 is 160000
        for (int frame : new int[] {0, 30, 59}) {
            Check.due("of the greatest works", most.planned(frame, 0), 6);
        }
    }

    private static void distributeRange() {
        Check.says("if there is none, the greatest one of the range; and then settled.");
        RatePlanner x = Check.clip(400, 0);
        x.setRange(12, 20);
        // 8040 bits at 12, 7312 at 13 and 3116 at 20
        int[][] due = {{10000000, 12}, {8040, 12}, {8039, 13}, {3116, 20}, {3115, 20}, {40, 20}};
        for (int[] row : due) {
            x.distribute(row[0]);
            Check.due("of distribute(" + row[0] + ")", x.planned(0, 0), row[1]);
        }
        x.addZone(0, 0, 10);
        x.distribute(8040);
        Check.due("12 + 10", x.planned(0, 0), 20);
        x.clearZones();
        x.addZone(0, 0, -10);
        x.distribute(40);
        Check.due("20 - 10", x.planned(0, 0), 12);
        x.clearZones();
        x.addZone(0, 0, 3);
        x.distribute(8040);
        Check.due("12 + 3", x.planned(0, 0), 15);
        x.setRange(20, 20);
        x.distribute(10000000);
        Check.due("20 alone", x.planned(0, 0), 20);
        x.clearZones();
        x.addZone(0, 0, 10);
        x.setRange(12, 40);
        x.distribute(10000000);
        Check.due("the least of the allowed range, and 10 then", x.planned(0, 0), 22);
    }

    private static void distributeErrors() {
        Check.says("Returns the number of frames that underflow; BAD; STATE if there are no frames, or bits is less than 40 *"
            + " n. bits: 0 to 10000000");
        RatePlanner x = Check.wide(Check.frames(60, 400, 100));
        x.setBuffer(100, 0);
        x.setRate(0);
        Check.due("distribute(2399)", x.distribute(2399), STATE);
        Check.due("distribute(0)", x.distribute(0), STATE);
        Check.due("no plan", x.count(3), 0);
        Check.due("distribute(2400)", x.distribute(2400), 60);
        Check.due("the greatest ones", x.total(5), 60 * 51);
        Check.due("distribute(10000000)", x.distribute(10000000), 60);
        Check.due("the least ones", x.total(5), 0);
        Check.due("distribute(2399)", x.distribute(2399), STATE);
        Check.due("distribute(-1)", x.distribute(-1), BAD);
        Check.due("distribute(10000001)", x.distribute(10000001), BAD);
        Check.due("the plan stays", x.total(5), 0);
        x.setBuffer(1000000, 100);
        Check.due("distribute(2400)", x.distribute(2400), 0);
        Check.due("of no frames", new RatePlanner().distribute(0), STATE);
        Check.due("of no frames", new RatePlanner().distribute(10000000), STATE);
        RatePlanner one = Check.wide(Check.clip(400, 100));
        Check.due("distribute(39) of one", one.distribute(39), STATE);
        Check.due("distribute(40) of one", one.distribute(40), 0);
    }

    private static RatePlanner row(int... quantizers) {
        RatePlanner x = Check.frames(quantizers.length, 400, 100);
        x.setBridges(0);
        x.constant(20);
        Check.adjust(x, quantizers);
        return x;
    }

    private static void smoothed(int most, int first, int second, int due) {
        RatePlanner x = row(first, second);
        Check.due("smooth(" + most + ") of " + first + ", " + second, x.smooth(most), due == second ? 0 : 1);
        Check.due("smooth(" + most + ") of " + first + ", " + second, Check.quantizers(x), first, due);
    }

    private static void smooth() {
        Check.says("the quantizer of a frame is limited to the range from q - most to q + most. most: 0 to 51");
        smoothed(0, 20, 20, 20);
        smoothed(0, 20, 21, 20);
        smoothed(0, 20, 19, 20);
        smoothed(5, 20, 25, 25);
        smoothed(5, 20, 26, 25);
        smoothed(5, 20, 15, 15);
        smoothed(5, 20, 14, 15);
        smoothed(50, 0, 51, 50);
        smoothed(50, 51, 0, 1);
        smoothed(51, 0, 51, 51);
        smoothed(51, 51, 0, 0);
        // whatever is allowed
        smoothed(2, 3, 51, 5);
        smoothed(2, 50, 0, 48);
    }

    private static void smoothChain() {
        Check.says("in coding order, beginning with the second place, ... where q is that of the frame at the place before (as"
            + " it is then)");
        RatePlanner x = row(10, 20, 30, 40);
        Check.due("smooth(3)", x.smooth(3), 3);
        Check.due("as it is then", Check.quantizers(x), 10, 13, 16, 19);
        RatePlanner y = row(51, 0, 51);
        Check.due("smooth(0)", y.smooth(0), 1);
        Check.due("the first stays", Check.quantizers(y), 51, 51, 51);
        RatePlanner order = Check.frames(4, 400, 100);
        order.constant(20);
        Check.adjust(order, 10, 30, 20, 40);
        // in the order 0, 3, 1, 2
        Check.due("smooth(9)", order.smooth(9), 2);
        Check.due("in coding order", Check.quantizers(order), 10, 28, 20, 19);
        RatePlanner one = row(20);
        Check.due("smooth(0) of one", one.smooth(0), 0);
        RatePlanner most = Check.frames(60, 400, 100);
        most.setInterval(1);
        most.constant(20);
        Check.adjust(most, 40);
        Check.due("smooth(0) of 60", most.smooth(0), 59);
        Check.due("sum then", most.total(5), 60 * 40);
    }

    private static void smoothScenes() {
        Check.says("if both frames belong to the same scene.");
        RatePlanner x = Check.frames(5, 100, 0);
        x.set(2, 100, 151);
        x.setInterval(2);
        x.constant(20);
        Check.adjust(x, 10, 20, 30, 40, 50);
        Check.due("smooth(1)", x.smooth(1), 3);
        Check.due("two scenes", Check.quantizers(x), 10, 11, 30, 31, 32);
        RatePlanner cuts = Check.frames(60, 10, 16);
        cuts.constant(20);
        Check.adjust(cuts, 0, 51, 0, 51);
        Check.due("smooth(0) of 60 scenes", cuts.smooth(0), 0);
    }

    private static void smoothErrors() {
        Check.says("Returns how many quantizers changed; BAD; STATE if there is no plan.");
        RatePlanner x = row(10, 20);
        Check.due("smooth(-1)", x.smooth(-1), BAD);
        Check.due("smooth(52)", x.smooth(52), BAD);
        Check.due("smooth(10)", x.smooth(10), 0);
        Check.due("the plan stays", Check.quantizers(x), 10, 20);
        x.setBridges(0);
        Check.due("without a plan", x.smooth(0), STATE);
        Check.due("bad without a plan", x.smooth(-1), BAD);
        Check.due("of no frames", new RatePlanner().smooth(51), STATE);
    }

    private static void adjust() {
        Check.says("quantizer: 0 to 51, whatever is allowed. Returns the previous quantizer; BAD; STATE if there is no plan.");
        RatePlanner x = Check.frames(60, 400, 100);
        x.setRange(20, 30);
        Check.due("adjust(0, 20) without a plan", x.adjust(0, 20), STATE);
        Check.due("adjust(60, 20) without a plan", x.adjust(60, 20), BAD);
        x.addZone(0, 59, 1);
        x.constant(25);
        Check.due("adjust(0, 0)", x.adjust(0, 0), 23);
        Check.due("adjust(0, 51)", x.adjust(0, 51), 0);
        Check.due("adjust(0, 51)", x.adjust(0, 51), 51);
        Check.due("adjust(59, 0)", x.adjust(59, 0), 26);
        Check.due("adjust(59, 51)", x.adjust(59, 51), 0);
        Check.due("adjust(59, 52)", x.adjust(59, 52), BAD);
        Check.due("adjust(59, -1)", x.adjust(59, -1), BAD);
        Check.due("adjust(60, 0)", x.adjust(60, 0), BAD);
        Check.due("adjust(-1, 0)", x.adjust(-1, 0), BAD);
        Check.due("planned(0, 0)", x.planned(0, 0), 51);
        Check.due("planned(1, 0)", x.planned(1, 0), 28);
        Check.due("planned(58, 0)", x.planned(58, 0), 28);
        Check.due("planned(59, 0)", x.planned(59, 0), 51);
        Check.due("of no frames", new RatePlanner().adjust(0, 0), BAD);
    }
}
