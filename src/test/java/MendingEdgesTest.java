import java.util.Arrays;

/** The boundaries that the promises 24 and 25 name: repairing and relaxing a plan. */
public final class MendingEdgesTest {
    private static final int BAD = RatePlanner.BAD, STATE = RatePlanner.STATE;
    private static final int ALL = 10000000;

    public static void main(String[] args) {
        repairNothing();
        firstUnderflow();
        fullBuffer();
        lastFullPlace();
        fullBehindTheUnderflow();
        nextQuantizer();
        nextInCodingOrder();
        costs();
        greatCosts();
        costsInCodingOrder();
        failing();
        repairErrors();
        relaxRange();
        relaxBits();
        relaxUnderflows();
        relaxForgetsWhatIsRefused();
        gains();
        greatGains();
        gainsInCodingOrder();
        fiveHundredRounds();
        fiveHundredRoundsBesideTheImpossible();
        relaxErrors();
        Check.end("MendingEdgesTest");
    }

    /** Intra frames alone, whose work is 4 * texture; all quantizers are allowed. */
    private static RatePlanner intras(int... textures) {
        RatePlanner x = new RatePlanner();
        for (int texture : textures) {
            x.append(texture, 0);
        }
        x.setInterval(1);
        x.setRange(0, 51);
        return x;
    }

    private static RatePlanner at(RatePlanner x, int... quantizers) {
        x.constant(20);
        Check.adjust(x, quantizers);
        return x;
    }

    private static void repaired(RatePlanner x, int due, long... quantizers) {
        Check.due("repair()", x.repair(), due);
        Check.due("the plan then", Check.quantizers(x), quantizers);
    }

    private static void relaxed(RatePlanner x, int bits, int due, long... quantizers) {
        Check.due("relax(" + bits + ")", x.relax(bits), due);
        Check.due("the plan then", Check.quantizers(x), quantizers);
    }

    // ---- repair

    private static void repairNothing() {
        Check.says("Repairs the plan until no frame underflows.");
        // 3116 bits at 20, 2897 at 21
        RatePlanner x = at(Check.buffered(intras(400), 3116, 100, 0), 20);
        repaired(x, 0, 20);
        Check.buffered(x, 3115, 100, 0);
        repaired(x, 1, 21);
        repaired(x, 0, 21);
        repaired(at(Check.buffered(intras(400), 2897, 100, 0), 20), 1, 21);
        repaired(at(Check.buffered(intras(400), 2896, 100, 0), 20), 2, 22);
    }

    private static void firstUnderflow() {
        Check.says("let u be the first place in coding order whose frame underflows");
        // 10040 bits for 10039, and 100040 for 99940; raising frame 1 would be cheaper, but raising frame 0 mends both
        RatePlanner x = at(Check.buffered(intras(400, 4000), 501950, 2, 99940), 10, 10);
        Check.due("both underflow", x.total(4), 2);
        repaired(x, 1, 11, 10);
    }

    private static void fullBuffer() {
        Check.says("let w be the last place, not behind u, before whose frame the content of the buffer is equal to its size,"
            + " or 0 if there is none.");
        // 10040 bits and 30809 for 30000; raising frame 0 would be cheaper (204 * 1000 / 1112 against 1296 * 1000 / 2198)
        repaired(at(Check.buffered(intras(400, 4000), 30000, 100, 10041), 10, 20), 1, 10, 21);
        repaired(at(Check.buffered(intras(400, 4000), 30000, 100, 10040), 10, 20), 1, 10, 21);
        // a bit less than full: frame 0 first, and behind that the buffer is full
        repaired(at(Check.buffered(intras(400, 4000), 30000, 100, 10039), 10, 20), 2, 11, 21);
    }

    private static void lastFullPlace() {
        // full before the places 1 and 2
        repaired(at(Check.buffered(intras(400, 400, 4000), 30000, 100, 10040), 10, 10, 20), 1, 10, 10, 21);
        // 17817, 28611 and 20040 bits: full before place 1, and 834 bits lack at place 2; the costs are 32, 50 and 906
        repaired(at(Check.buffered(intras(400, 1000, 2600), 30000, 100, 17817), 5, 9, 20), 1, 5, 10, 20);
        // a bit less than full before place 1: frame 0 is asked, too
        repaired(at(Check.buffered(intras(400, 1000, 2600), 30000, 100, 17816), 5, 9, 20), 2, 6, 10, 20);
    }

    private static void fullBehindTheUnderflow() {
        // 10040 bits, then 15040 for 14999, and the buffer is full before place 3; the costs are 183 and 122
        RatePlanner x = at(Check.buffered(intras(400, 600, 10, 10), 15000, 100, 10039), 10, 10, 10, 10);
        Check.due("lacking", x.planned(1, 5), 41);
        Check.due("full", x.planned(3, 3), 15000);
        repaired(x, 1, 10, 11, 10, 10);
    }

    private static void nextQuantizer() {
        Check.says("the next quantizer is the least one that is greater than that of the frame, not greater than the greatest"
            + " allowed one, and with which the frame takes fewer bits.");
        RatePlanner x = at(Check.buffered(intras(400), 2897, 100, 0), 20);
        x.setRange(0, 20);
        repaired(x, STATE, 20);
        x.setRange(0, 19);
        repaired(x, STATE, 20);
        x.setRange(0, 21);
        repaired(x, 1, 21);
        // 136 bits at 50, and 129 at 51, which is the last there is
        RatePlanner last = at(Check.buffered(intras(400), 129, 100, 0), 50);
        repaired(last, 1, 51);
        Check.buffered(last, 128, 100, 0);
        repaired(last, STATE, 51);
        // 47 bits at 20 and 21, 46 at 22
        RatePlanner skipped = at(Check.buffered(intras(1), 100, 46, 0), 20);
        skipped.setRange(0, 21);
        repaired(skipped, STATE, 20);
        skipped.setRange(0, 22);
        repaired(skipped, 1, 22);
    }

    private static void nextInCodingOrder() {
        // order 0, 3, 1, 2; frame 3 of the work 1 takes 41 bits from 20 to 25, and 40 at 26
        RatePlanner x = Check.clip(400, 100, 200, 50, 300, 100, 1, 0);
        x.setRange(0, 26);
        at(Check.buffered(x, 1578 + 184 + 280 + 40, 100, 0), 26, 26, 26, 20);
        Check.due("a bit lacks", x.total(2), 1);
        repaired(x, 1, 26, 26, 26, 26);
        x.setRange(0, 25);
        at(Check.buffered(x, 1858 + 210 + 324 + 40, 100, 0), 25, 25, 25, 20);
        Check.due("a bit lacks", x.total(2), 1);
        repaired(x, STATE, 25, 25, 25, 20);
    }

    private static void costs() {
        Check.says("The cost of a frame is 1000 * (the increase of its loss) / (the decrease of its bits), if it has a next"
            + " quantizer. The frame with the least cost, of several the one with the least place, gets its next"
            + " quantizer.");
        // 720000 / 464 and 816000 / 526 are 1551 both, though the latter is a little less
        repaired(at(Check.buffered(intras(260, 379), 3754 + 4777 - 1, 100, 0), 15, 16), 1, 16, 16);
        // the same frames the other way round
        repaired(at(Check.buffered(intras(379, 260), 3754 + 4777 - 1, 100, 0), 16, 15), 1, 17, 15);
        // 720000 / 464 is less than 816000 / 525, which is 1554
        repaired(at(Check.buffered(intras(378, 260), 4765 + 3754 - 1, 100, 0), 16, 15), 1, 16, 16);
        repaired(at(Check.buffered(intras(400, 400, 400), 3 * 3116 - 1, 100, 0), 20, 20, 20), 1, 21, 20, 20);
        repaired(at(Check.buffered(intras(400, 400, 400), 3 * 3116 - 220, 100, 0), 20, 20, 20), 2, 21, 21, 20);
        // the losses of two scenes, which are alike but for their weights
        RatePlanner scenes = at(Check.buffered(Check.wide(Check.clip(400, 0, 400, 601)), 2 * 3116 - 1, 100, 0), 20, 20);
        repaired(scenes, 1, 21, 20);
        scenes.setWeight(0, 5);
        repaired(at(scenes, 20, 20), 1, 20, 21);
        scenes.setWeight(1, 6);
        repaired(at(scenes, 20, 20), 1, 21, 20);
    }

    private static void greatCosts() {
        // 1000 * 2654208 is more than an int holds; by 7 bits it is 379172571, and that of frame 1 is 5917
        RatePlanner x = Check.wide(Check.clip(400, 0, 400, 601));
        x.setWeight(0, 8);
        at(Check.buffered(x, 136 + 3116 - 1, 100, 0), 50, 20);
        Check.due("increase", x.lossAt(0, 51) - x.lossAt(0, 50), 2654208);
        repaired(x, 1, 50, 21);
        at(x, 50, 51);
        x.setBuffer(136 + 129 - 1, 100);
        repaired(x, 1, 51, 51);
    }

    private static void costsInCodingOrder() {
        // order 0, 3, 1, 2; 45 is the greatest; 864000 / 82 and 432000 / 41 are the same
        RatePlanner x = Check.frames(4, 400, 100);
        at(Check.buffered(x, 218 + 1193 + 616 + 616 - 1, 100, 0), 45, 20, 20, 20);
        repaired(x, 1, 45, 20, 20, 21);
        // 42 bits are 1 more than frame 1 could spare: frame 3 with 82 is at 21, and costs 1008000 / 134 less
        Check.buffered(x, 218 + 1193 + 616 + 616 - 83, 100, 0);
        repaired(x, 1, 45, 21, 20, 21);
    }

    private static void failing() {
        Check.says("If no frame from w to u has one, the repair fails.");
        // behind a full buffer frame 1 has no next one, whatever frame 0 has
        RatePlanner x = at(Check.buffered(intras(400, 4000), 30000, 100, 10040), 10, 20);
        x.setRange(0, 20);
        repaired(x, STATE, 10, 20);
        // frame 0 is raised until the buffer is full; then it fails, and nothing changes
        Check.buffered(x, 30000, 100, 10039);
        repaired(x, STATE, 10, 20);
        Check.due("the bits stay", x.total(0), 10040 + 30809);
        Check.says("Returns the number of rounds that changed a quantizer; STATE if there is no plan, or the repair fails"
            + " (nothing changes then).");
        int[] textures = new int[60];
        Arrays.fill(textures, 4000);
        RatePlanner most = at(Check.buffered(intras(textures), 60 * 932, 100, 0), new int[60]);
        Check.due("60 frames from 0 to 51", most.repair(), 60 * 51);
        Check.due("all at 51", most.total(5), 60 * 51);
        Check.buffered(most, 60 * 932 - 1, 100, 0);
        Check.due("not a bit less", most.repair(), STATE);
        Check.due("all at 51", most.total(5), 60 * 51);
    }

    private static void repairErrors() {
        RatePlanner x = intras(400);
        Check.due("without a plan", x.repair(), STATE);
        Check.due("no plan then", x.count(3), 0);
        Check.due("of no frames", new RatePlanner().repair(), STATE);
        at(Check.buffered(x, 1000000, 0, 100000), 20);
        // no quantizer takes no bits
        repaired(x, STATE, 20);
    }

    // ---- relax

    private static void relaxRange() {
        Check.says("for each frame whose quantizer is greater than the least allowed one, it is considered to decrease it by"
            + " 1");
        RatePlanner x = Check.buffered(intras(400, 400, 400, 400), 1000000, 100, 0);
        x.setRange(20, 30);
        relaxed(at(x, 20, 20, 20, 20), ALL, 0, 20, 20, 20, 20);
        relaxed(at(x, 21, 20, 19, 0), ALL, 1, 20, 20, 19, 0);
        relaxed(at(x, 0, 19, 20, 21), ALL, 1, 0, 19, 20, 20);
        relaxed(at(x, 31, 51, 30, 22), ALL, 11 + 31 + 10 + 2, 20, 20, 20, 20);
        x.setRange(0, 0);
        relaxed(at(x, 0, 1, 0, 2), ALL, 3, 0, 0, 0, 0);
        x.setRange(51, 51);
        relaxed(at(x, 51, 51, 50, 0), ALL, 0, 51, 51, 50, 0);
        // order 0, 3, 1, 2: the frames 3 and 1 are at the least one, frame 2 is below it
        RatePlanner order = Check.buffered(Check.frames(4, 400, 100), 1000000, 100, 0);
        relaxed(at(order, 20, 12, 12, 10), ALL, 14, 10, 10, 10, 10);
        relaxed(at(order, 20, 10, 9, 12), ALL, 12, 10, 10, 9, 10);
    }

    private static void relaxBits() {
        Check.says("this is possible if the plan takes at most so many bits then. bits: 0 to 10000000");
        // 3676 bits at 19
        RatePlanner x = Check.buffered(intras(400), 1000000, 100, 0);
        relaxed(at(x, 20), 3676, 1, 19);
        relaxed(at(x, 20), 3675, 0, 20);
        relaxed(at(x, 20), 0, 0, 20);
        relaxed(at(x, 20), ALL, 20, 0);
        // 47 bits at 21 and 20, 49 at 19: the bits don't increase, but are too many all the same
        RatePlanner small = Check.buffered(intras(1), 1000000, 100, 0);
        relaxed(at(small, 21), 46, 0, 21);
        relaxed(at(small, 21), 47, 1, 20);
        relaxed(at(small, 21), 48, 1, 20);
        relaxed(at(small, 21), 49, 2, 19);
    }

    private static void relaxUnderflows() {
        Check.says("and no more frames underflow than before the call.");
        RatePlanner x = intras(400);
        relaxed(at(Check.buffered(x, 3676, 100, 0), 20), ALL, 1, 19);
        relaxed(at(Check.buffered(x, 3675, 100, 0), 20), ALL, 0, 20);
        relaxed(at(Check.buffered(x, 3116, 100, 0), 20), ALL, 0, 20);
        // it underflows before the call
        relaxed(at(Check.buffered(x, 3115, 100, 0), 20), ALL, 20, 0);
        // frame 0 underflows; frame 1 of the work 400 takes 809 bits at 20, 949 at 19 and 1040 at 18
        RatePlanner pair = Check.clip(400, 100, 300, 50);
        relaxed(at(Check.buffered(pair, 3000, 100, 948), 20, 20), ALL, 10, 10, 20);
        relaxed(at(Check.buffered(pair, 3000, 100, 949), 20, 20), ALL, 11, 10, 19);
        // both underflow before the call
        relaxed(at(Check.buffered(pair, 3000, 100, 808), 20, 20), ALL, 20, 10, 10);
        // one of them is enough for the other to be refused
        relaxed(at(Check.buffered(pair, 3000, 100, 809), 20, 20), ALL, 10, 10, 20);
    }

    private static void relaxForgetsWhatIsRefused() {
        // frame 0 takes all the 809 bits at first and is refused; frame 1 may then take 949 of the 1000 that come
        RatePlanner x = at(Check.buffered(Check.clip(100, 0, 300, 50), 80900, 1, 1000), 20, 20);
        relaxed(x, 809 + 949 - 1, 0, 20, 20);
        relaxed(x, 809 + 949, 1, 20, 19);
    }

    private static void gains() {
        Check.says("The gain is 1000 * (the decrease of the loss) / (the increase of the bits) ... Of the possible frames the"
            + " one with the greatest gain");
        // 816000 / 181 and 2304000 / 511 are 4508 both, though the latter is a little more; then frame 0 takes 232 more
        RatePlanner x = Check.buffered(intras(130, 365), 1000000, 100, 0);
        relaxed(at(x, 17, 20), 1484 + 2847 + 511, 2, 15, 20);
        // the same frames the other way round
        RatePlanner y = Check.buffered(intras(365, 130), 1000000, 100, 0);
        relaxed(at(y, 20, 17), 1484 + 2847 + 511, 1, 19, 17);
        RatePlanner equal = Check.buffered(intras(400, 400, 400), 1000000, 100, 0);
        relaxed(at(equal, 20, 20, 20), 3 * 3116 + 560, 1, 19, 20, 20);
        // 559 bits are too few for the next equal, but 364 do for frame 0 once more
        relaxed(at(equal, 20, 20, 20), 3 * 3116 + 1119, 2, 18, 20, 20);
        relaxed(at(equal, 20, 20, 20), 3 * 3116 + 1120, 2, 19, 19, 20);
    }

    private static void greatGains() {
        Check.says("or 2000000000 if the bits do not increase.");
        // 58 frames that take 40 bits from 51 to 38; of the others each takes a bit more for its first step
        RatePlanner x = Check.buffered(Check.load("1/0*58;13/20*2"), 1000000, 100, 0);
        x.setInterval(1);
        x.setRange(0, 51);
        x.setWeight(1, 6);
        x.setWeight(2, 8);
        at(x);
        for (int frame = 0; frame < 59; frame++) {
            x.adjust(frame, 51);
        }
        x.adjust(59, 49);
        Check.due("gain of frame 58", 1000L * (x.lossAt(58, 51) - x.lossAt(58, 50)), 1990656000L);
        Check.due("its bits", x.bitsAt(58, 50) - x.bitsAt(58, 51), 1);
        Check.due("gain of frame 59", 1000L * (x.lossAt(59, 49) - x.lossAt(59, 48)), 2064384000L);
        Check.due("its bits", x.bitsAt(59, 48) - x.bitsAt(59, 49), 1);
        Check.due("relax", x.relax(ALL), 500);
        Check.due("more than 2000000000 comes before", x.planned(59, 0), 48);
        Check.due("less than 2000000000 comes behind", x.planned(58, 0), 51);
        // 499 of the 58 * 13 steps that take no bits
        Check.due("the least places first", x.planned(37, 0), 38);
        Check.due("the least places first", x.planned(38, 0), 46);
        Check.due("the least places first", x.planned(39, 0), 51);
    }

    private static void gainsInCodingOrder() {
        Check.says("of several the one with the least place in coding order, gets the decreased quantizer.");
        // order 0, 3, 1, 2; 1536000 / 210 and 768000 / 105 are the same, and frame 0 gains less
        RatePlanner x = Check.buffered(Check.frames(4, 400, 100), 1000000, 100, 0);
        int bits = 3116 + 1193 + 616 + 616;
        relaxed(at(x, 20, 20, 20, 20), bits + 210, 1, 20, 20, 20, 19);
        // 105 and 69 bits for frame 1
        relaxed(at(x, 20, 20, 20, 20), bits + 173, 1, 20, 19, 20, 20);
        relaxed(at(x, 20, 20, 20, 20), bits + 174, 2, 20, 18, 20, 20);
        relaxed(at(x, 20, 20, 20, 20), bits + 315, 2, 20, 19, 20, 19);
    }

    private static void fiveHundredRounds() {
        Check.says("It ends when no frame is possible, or after 500 rounds.");
        RatePlanner x = Check.buffered(intras(1, 1, 1, 1, 1, 1, 1, 1, 1, 1, 1), 1000000, 100, 100000);
        x.setRange(1, 51);
        RatePlanner steps = at(x, 51, 51, 51, 51, 51, 51, 51, 51, 51, 51, 1);
        Check.due("500 steps", steps.relax(ALL), 500);
        Check.due("no step is left", steps.relax(ALL), 0);
        at(x, 51, 51, 51, 51, 51, 51, 51, 51, 51, 51, 2);
        Check.due("501 steps", x.relax(ALL), 500);
        Check.due("one is left", x.total(5), 12);
        Check.due("the last one", x.relax(ALL), 1);
        at(x, 51, 51, 51, 51, 51, 51, 51, 51, 51, 50, 1);
        Check.due("499 steps", x.relax(ALL), 499);
    }

    private static void fiveHundredRoundsBesideTheImpossible() {
        // 58 frames that take 40 bits from 51 to 38; two that gain most by the bit that is not there, and are refused
        RatePlanner x = Check.buffered(Check.load("1/0*58;13/20*2"), 1000000, 100, 0);
        x.setInterval(1);
        x.setRange(0, 51);
        x.setWeight(1, 8);
        x.setWeight(2, 8);
        at(x);
        for (int frame = 0; frame < 60; frame++) {
            x.adjust(frame, 51);
        }
        Check.due("relax to no more bits", x.relax((int) x.total(0)), 500);
        Check.due("500 steps", x.total(5), 60 * 51 - 500);
        Check.due("refused", x.planned(58, 0), 51);
        Check.due("refused", x.planned(59, 0), 51);
    }

    private static void relaxErrors() {
        Check.says("Returns the number of rounds that changed a quantizer; BAD; STATE if there is no plan.");
        RatePlanner x = Check.buffered(intras(400), 1000000, 100, 0);
        Check.due("without a plan", x.relax(0), STATE);
        Check.due("without a plan", x.relax(ALL), STATE);
        Check.due("bad without a plan", x.relax(-1), BAD);
        at(x, 20);
        Check.due("relax(-1)", x.relax(-1), BAD);
        Check.due("relax(10000001)", x.relax(ALL + 1), BAD);
        Check.due("the plan stays", Check.quantizers(x), 20);
        Check.due("of no frames", new RatePlanner().relax(ALL), STATE);
    }
}
