/** Promises 20 to 26: making plans and changing them. */
public final class MakingTest {
    private static final int BAD = RatePlanner.BAD, STATE = RatePlanner.STATE;
    private static final int LOWEST = Integer.MIN_VALUE, HIGHEST = Integer.MAX_VALUE;

    public static void main(String[] args) {
        promise20Constant();
        promise21Control();
        promise22Distribute();
        promise22DistributeEdges();
        promise23Smooth();
        promise23SmoothEdges();
        promise24Repair();
        promise24RepairChoice();
        promise24RepairInCodingOrder();
        promise24RepairOfAll();
        promise24RepairErrors();
        promise25Relax();
        promise25RelaxChoice();
        promise25RelaxInCodingOrder();
        promise25GreatGain();
        promise25RelaxEnds();
        promise26Adjust();
        Check.end("MakingTest");
    }

    /** An intra frame of the work 1600 and a forward one of the work 400. */
    private static RatePlanner pair() {
        return Check.clip(400, 100, 300, 50);
    }

    private static void promise20Constant() {
        RatePlanner x = Check.frames(4, 400, 100);
        Check.due("constant(20)", x.constant(20), 0);
        Check.due("of 20", Check.quantizers(x), 17, 22, 22, 20);
        x.constant(0);
        Check.due("of 0", Check.quantizers(x), 10, 10, 10, 10);
        x.constant(44);
        Check.due("of 44", Check.quantizers(x), 41, 45, 45, 44);
        x.constant(51);
        Check.due("of 51", Check.quantizers(x), 45, 45, 45, 45);
        Check.due("constant(-1)", x.constant(-1), BAD);
        Check.due("constant(52)", x.constant(52), BAD);
        Check.due("the plan stays", Check.quantizers(x), 45, 45, 45, 45);
        Check.wide(x).addZone(1, 3, 4);
        x.constant(51);
        Check.due("of 51, wide", Check.quantizers(x), 48, 51, 51, 51);
        x.constant(2);
        Check.due("of 2, wide", Check.quantizers(x), 0, 8, 8, 6);
        x.setBuffer(100, 0);
        x.setRate(0);
        Check.due("all underflow", x.constant(20), 4);
        x.setRate(100000);
        x.setBuffer(1000000, 0);
        Check.due("the first underflows", x.constant(20), 1);
        Check.due("of no frames", new RatePlanner().constant(0), STATE);
        Check.due("bad of no frames", new RatePlanner().constant(52), BAD);
        Check.due("no plan of no frames", new RatePlanner().count(3), 0);
    }

    private static void promise21Control() {
        RatePlanner x = pair();
        // 20 + (30000 - 54000) * 10 / 60000 - 3; 7312 bits; 20 + (30000 - 50688) * 10 / 60000
        Check.due("control(20, 10)", x.control(20, 10), 0);
        Check.due("of a full buffer", Check.quantizers(x), 13, 17);
        Check.due("content before 1", x.planned(1, 3), 50688);
        x.setBuffer(60000, 10);
        // 20 + (30000 - 6000) * 10 / 60000 - 3; 2897 bits; 20 + (30000 - 7103) * 10 / 60000
        Check.due("control(20, 10)", x.control(20, 10), 0);
        Check.due("of an empty buffer", Check.quantizers(x), 21, 23);
        Check.due("control(20, 0)", x.control(20, 0), 0);
        Check.due("without gain", Check.quantizers(x), 17, 20);
        Check.due("control(51, 200)", x.control(51, 200), 0);
        Check.due("limited", Check.quantizers(x), 45, 45);
        x.addZone(1, 1, -10);
        Check.due("control(20, 10) with a zone", x.control(20, 10), 0);
        Check.due("with a zone", Check.quantizers(x), 21, 13);
        x.setBuffer(101, 0);
        x.setRate(0);
        // 0 + (50 - 0) * 10 / 101 - 3, in the range from 0
        Check.wide(x).clearZones();
        Check.due("control(0, 10)", x.control(0, 10), 2);
        Check.due("of a small buffer", Check.quantizers(x), 1, 4);
        Check.due("control(-1, 0)", x.control(-1, 0), BAD);
        Check.due("control(52, 0)", x.control(52, 0), BAD);
        Check.due("control(0, -1)", x.control(0, -1), BAD);
        Check.due("control(0, 201)", x.control(0, 201), BAD);
        Check.due("the plan stays", Check.quantizers(x), 1, 4);
        Check.due("of no frames", new RatePlanner().control(0, 0), STATE);
        Check.due("bad of no frames", new RatePlanner().control(0, 201), BAD);
        RatePlanner y = Check.frames(4, 400, 100);
        y.setBuffer(50000, 100);
        y.setRate(9000);
        // in coding order 0, 3, 1, 2: 20 - 25000 * 20 / 50000 - 3 is 7, 14585 bits, content 35415;
        // then 20 - 19415 * 20 / 50000 is 13, 2767 bits, content 41648; then the buffer is full:
        // 20 - 25000 * 20 / 50000 + 2 is 12, 1540 bits, and full again
        Check.due("control(20, 20)", Check.wide(y).control(20, 20), 0);
        Check.due("in coding order", Check.quantizers(y), 7, 12, 12, 13);
        y.addZone(1, 1, -10);
        Check.due("control(20, 20) with a zone", y.control(20, 20), 0);
        Check.due("the zone is that of frame 1", Check.quantizers(y), 7, 2, 12, 13);
    }

    private static void promise22Distribute() {
        RatePlanner x = pair();
        // shares 640 and 320 of 9920 bits: targets 6653 and 3346
        Check.due("distribute(10000)", x.distribute(10000), 0);
        Check.due("in the first range", Check.quantizers(x), 14, 10);
        Check.wide(x).distribute(10000);
        Check.due("wide", Check.quantizers(x), 14, 8);
        x.addZone(1, 1, 7);
        x.distribute(10000);
        Check.due("settled", Check.quantizers(x), 14, 15);
        x.setBuffer(100, 0);
        Check.due("the first underflows", x.distribute(80), 1);
        Check.due("the greatest", Check.quantizers(x), 51, 51);
        RatePlanner two = Check.wide(Check.clip(400, 0, 10, 400));
        // works 1600 and 40; weights 4 and 8: shares 640 and 143 of 9700 bits, target 7968
        two.setWeight(1, 8);
        two.distribute(9780);
        Check.due("of two weights", Check.quantizers(two), 13, 0);
        // shares 640 and 101, target 8417
        two.setWeight(1, 4);
        two.distribute(9780);
        Check.due("of one weight", Check.quantizers(two), 12, 0);
        two.setWeight(0, 1);
        // shares 320 and 101 of 9920 bits, target 7580
        two.distribute(10000);
        Check.due("of a small weight", Check.quantizers(two), 13, 0);
    }

    private static void promise22DistributeEdges() {
        RatePlanner one = Check.wide(Check.clip(400, 0));
        one.distribute(8040);
        Check.due("exactly the target", one.planned(0, 0), 12);
        one.distribute(8039);
        Check.due("one bit less", one.planned(0, 0), 13);
        Check.due("distribute(40)", one.distribute(40), 0);
        Check.due("the target 40", one.planned(0, 0), 51);
        one.addZone(0, 0, -5);
        one.distribute(40);
        Check.due("settled behind the greatest", one.planned(0, 0), 46);
        Check.due("distribute(39)", one.distribute(39), STATE);
        Check.due("distribute(0)", one.distribute(0), STATE);
        Check.due("distribute(-1)", one.distribute(-1), BAD);
        Check.due("distribute(10000001)", one.distribute(10000001), BAD);
        Check.due("the plan stays", one.planned(0, 0), 46);
        one.clearZones();
        Check.due("distribute(10000000)", one.distribute(10000000), 0);
        Check.due("bits enough", one.planned(0, 0), 0);
        // shares 55 and 35, the roots rounded down: 393 * 55 / 90 is 240, and 2400 bits / step 10 are, too
        RatePlanner small = Check.wide(Check.clip(3, 0, 5, 0));
        small.distribute(473);
        Check.due("473 bits", small.planned(0, 0), 0);
        small.distribute(472);
        Check.due("472 bits", small.planned(0, 0), 1);
        RatePlanner most = Check.wide(Check.frames(60, 4000, 4000));
        most.setInterval(1);
        most.setWeight(0, 8);
        // the product of 9997600 and the share 2862 needs a long; the target 166666 wants a step of 20
        Check.due("distribute(10000000)", most.distribute(10000000) >= 0 ? 1 : 0, 1);
        Check.due("of great shares", most.planned(0, 0), 6);
        Check.due("of great shares", most.planned(59, 0), 6);
        Check.due("60 * 40 - 1 bits", most.distribute(2399), STATE);
        Check.due("60 * 40 bits", most.distribute(2400) >= 0 ? 1 : 0, 1);
        Check.due("of no frames", new RatePlanner().distribute(10000000), STATE);
        Check.due("bad of no frames", new RatePlanner().distribute(10000001), BAD);
        // a bridge without work has the share 0 and takes 40 bits with any quantizer
        RatePlanner idle = Check.wide(Check.frames(3, 1, 0));
        idle.distribute(120);
        Check.due("a frame without work", idle.planned(1, 0), 0);
    }

    private static void promise23Smooth() {
        RatePlanner x = Check.frames(4, 400, 100);
        x.setBridges(0);
        x.constant(20);
        Check.adjust(x, 10, 20, 12, 40);
        Check.due("smooth(3)", x.smooth(3), 2);
        Check.due("of 10, 20, 12, 40", Check.quantizers(x), 10, 13, 12, 15);
        Check.adjust(x, 10, 20, 12, 40);
        Check.due("smooth(10)", x.smooth(10), 1);
        Check.due("of 10, 20, 12, 40", Check.quantizers(x), 10, 20, 12, 22);
        Check.adjust(x, 30, 20, 40, 5);
        Check.due("smooth(4)", x.smooth(4), 3);
        Check.due("of 30, 20, 40, 5", Check.quantizers(x), 30, 26, 30, 26);
        Check.due("smooth(4) again", x.smooth(4), 0);
        x.setBridges(2);
        x.constant(20);
        Check.adjust(x, 10, 20, 30, 40);
        Check.due("smooth(5) in coding order", x.smooth(5), 2);
        Check.due("of 10, 40, 20, 30", Check.quantizers(x), 10, 20, 25, 15);
    }

    private static void promise23SmoothEdges() {
        RatePlanner x = Check.clip(100, 0, 100, 0, 100, 200, 100, 0);
        x.constant(20);
        Check.adjust(x, 51, 0, 20, 21);
        Check.due("smooth(0)", x.smooth(0), 2);
        Check.due("scenes apart, whatever is allowed", Check.quantizers(x), 51, 51, 20, 20);
        Check.adjust(x, 51, 0, 20, 21);
        Check.due("smooth(51)", x.smooth(51), 0);
        Check.due("smooth(-1)", x.smooth(-1), BAD);
        Check.due("smooth(52)", x.smooth(52), BAD);
        Check.due("the plan stays", Check.quantizers(x), 51, 0, 20, 21);
        x.drop();
        Check.due("without a plan", x.smooth(0), STATE);
        Check.due("bad without a plan", x.smooth(52), BAD);
        RatePlanner y = Check.frames(3, 100, 0);
        y.setInterval(1);
        y.constant(20);
        Check.adjust(y, 10, 20, 30);
        Check.due("groups of one scene", y.smooth(2), 2);
        Check.due("groups of one scene", Check.quantizers(y), 10, 12, 14);
    }

    private static void promise24Repair() {
        RatePlanner x = Check.clip(400, 100);
        x.setBuffer(1000, 100);
        x.constant(13);
        Check.due("the quantizer before", x.planned(0, 0), 10);
        Check.due("repair()", x.repair(), 21);
        Check.due("352 is the first step that will do", x.planned(0, 0), 31);
        Check.due("no underflow", x.total(4), 0);
        Check.due("repair() again", x.repair(), 0);
        // work 4: 47 bits with 20 and 21, 46 with 22
        RatePlanner y = Check.clip(1, 0);
        y.setBuffer(100, 46);
        y.constant(23);
        Check.due("the quantizer before", y.planned(0, 0), 20);
        Check.due("repair()", y.repair(), 1);
        Check.due("a quantizer without fewer bits is left out", y.planned(0, 0), 22);
        y.adjust(0, 20);
        y.setRange(0, 21);
        Check.due("none with fewer bits is allowed", y.repair(), STATE);
        Check.due("the plan stays", y.planned(0, 0), 20);
        // nothing keeps the next quantizer from being less than the least allowed one
        y.setRange(40, 51);
        Check.due("repair() below the range", y.repair(), 1);
        Check.due("repair() below the range", y.planned(0, 0), 22);
    }

    private static void promise24RepairChoice() {
        // before place 1 the buffer is full, so that frame 0 is not asked
        RatePlanner x = pair();
        x.setBuffer(1000, 100);
        x.setRate(1000);
        x.constant(20);
        Check.adjust(x, 34, 10);
        Check.due("repair() behind a full buffer", x.repair(), 9);
        Check.due("frame 1 alone", Check.quantizers(x), 34, 19);
        // never full behind place 0: both are asked, and the cheaper raise comes first
        x.setBuffer(7000, 100);
        x.setRate(0);
        Check.adjust(x, 13, 20);
        // 7312 + 809 bits; raising 13 (6193 bits then, 576 loss more) costs 514, raising 20 (57 bits less) more;
        // then 6193 + 809 is 2 bits too much: raising 14 (440 bits less, 324 loss more) costs 736
        Check.due("repair() of two", x.repair(), 2);
        Check.due("the cheaper one", Check.quantizers(x), 15, 20);
        // equal frames: the least place first
        RatePlanner y = Check.frames(4, 400, 0);
        y.setInterval(1);
        y.setBuffer(1000000, 2);
        y.setRate(0);
        y.constant(17);
        // 4 * 5040 bits are 160 more than 20000; a raise to 15 saves 596
        y.adjust(0, 16);
        Check.adjust(y, 16, 16, 16, 16);
        Check.due("bits", y.total(0), 4 * 5040);
        Check.due("repair() of equals", y.repair(), 1);
        Check.due("the least place", Check.quantizers(y), 17, 16, 16, 16);
    }

    /** Works 1600, 150, 250 and 600 in the order 0, 3, 1, 2; with 20 they take 3116, 328, 520 and 1193 bits. */
    private static RatePlanner four() {
        RatePlanner x = Check.wide(Check.clip(400, 100, 200, 50, 300, 100, 400, 100));
        Check.due("order", Check.order(x), 0, 3, 1, 2);
        x.setRate(0);
        x.constant(20);
        Check.adjust(x, 20, 20, 20, 20);
        Check.due("bits", x.total(0), 3116 + 328 + 520 + 1193);
        return x;
    }

    private static void promise24RepairInCodingOrder() {
        RatePlanner x = four();
        x.setRange(0, 45);
        Check.adjust(x, 45, 20, 20, 20);
        // 2259 bits; to 21: frame 3 -82 bits, cost 10536; frame 1 -21, 20571; frame 2 -34, 12705
        x.setBuffer(2258, 100);
        Check.due("repair() of 2259 bits for 2258", x.repair(), 1);
        Check.due("frame 3", Check.quantizers(x), 45, 20, 20, 21);
        // then frame 3 to 22: -134 bits, cost 14328
        x.setBuffer(2176, 100);
        Check.due("repair() of 2177 bits for 2176", x.repair(), 1);
        Check.due("frame 2 behind it", Check.quantizers(x), 45, 20, 21, 21);
        // then frame 2 to 22: -56 bits, cost 17142
        Check.adjust(x, 45, 20, 20, 20);
        x.setBuffer(2142, 100);
        Check.due("repair() of 2259 bits for 2142", x.repair(), 3);
        Check.due("frames 3, 2 and 3", Check.quantizers(x), 45, 20, 21, 22);
        Check.adjust(x, 45, 20, 20, 20);
        x.setRange(0, 21);
        x.setBuffer(2122, 100);
        Check.due("repair() up to the greatest", x.repair(), 3);
        Check.due("all at the greatest", Check.quantizers(x), 45, 21, 21, 21);
        Check.adjust(x, 45, 20, 20, 20);
        x.setBuffer(2121, 100);
        Check.due("one bit is missing", x.repair(), STATE);
        Check.due("the plan stays", Check.quantizers(x), 45, 20, 20, 20);
    }

    private static void promise24RepairOfAll() {
        RatePlanner x = Check.wide(Check.frames(60, 4000, 0));
        x.setInterval(1);
        x.setRate(0);
        x.setBuffer(60 * 932, 100);
        x.constant(3);
        Check.due("all at 0", x.total(5), 0);
        Check.due("repair()", x.repair(), 60 * 51);
        Check.due("all at 51", x.total(5), 60 * 51);
        x.setBuffer(60 * 932 - 1, 100);
        Check.due("repair() of one bit too much", x.repair(), STATE);
    }

    private static void promise24RepairErrors() {
        RatePlanner x = pair();
        Check.due("without a plan", x.repair(), STATE);
        x.constant(20);
        x.setBuffer(60000, 0);
        Check.due("an empty buffer", x.repair(), STATE);
        Check.due("the plan stays", Check.quantizers(x), 17, 20);
        Check.due("there is still a plan", x.count(3), 1);
        x.setBuffer(1000, 100);
        x.setRange(10, 20);
        Check.due("not enough is allowed", x.repair(), STATE);
        Check.due("the plan stays", Check.quantizers(x), 17, 20);
        x.adjust(0, 30);
        Check.due("beyond the allowed ones", x.repair(), STATE);
        x.adjust(0, 31);
        Check.due("beyond, but no underflow", x.repair(), 0);
        Check.due("of no frames", new RatePlanner().repair(), STATE);
    }

    private static void promise25Relax() {
        RatePlanner x = Check.clip(400, 100);
        x.constant(23);
        Check.due("relax(10000000)", x.relax(10000000), 10);
        Check.due("to the least allowed", x.planned(0, 0), 10);
        x.adjust(0, 20);
        Check.due("relax(8040)", x.relax(8040), 8);
        Check.due("to all the bits", x.planned(0, 0), 12);
        x.adjust(0, 20);
        Check.due("relax(8039)", x.relax(8039), 7);
        Check.due("to one bit less", x.planned(0, 0), 13);
        x.setBuffer(8040, 100);
        x.adjust(0, 20);
        Check.due("relax in a small buffer", x.relax(10000000), 8);
        Check.due("until it would underflow", x.planned(0, 0), 12);
        x.setBuffer(8039, 100);
        x.adjust(0, 20);
        Check.due("relax in a smaller one", x.relax(10000000), 7);
        Check.due("until it would underflow", x.planned(0, 0), 13);
        x.setBuffer(100, 100);
        x.adjust(0, 20);
        Check.due("it underflows before the call", x.relax(10000000), 10);
        x.adjust(0, 5);
        Check.due("less than the least allowed", x.relax(10000000), 0);
        x.adjust(0, 20);
        Check.due("more bits than those before", x.relax(0), 0);
        Check.due("relax(-1)", x.relax(-1), BAD);
        Check.due("relax(10000001)", x.relax(10000001), BAD);
        Check.due("relax(LOWEST)", x.relax(LOWEST), BAD);
        Check.due("relax(HIGHEST)", x.relax(HIGHEST), BAD);
        Check.due("the plan stays", x.planned(0, 0), 20);
        x.drop();
        Check.due("without a plan", x.relax(0), STATE);
        Check.due("bad without a plan", x.relax(-1), BAD);
    }

    private static void promise25RelaxChoice() {
        // work 4: 47 bits with 21 and 20, 49 with 19
        RatePlanner x = Check.clip(1, 0);
        x.constant(24);
        Check.due("relax(47)", x.relax(47), 1);
        Check.due("no more bits", x.planned(0, 0), 20);
        Check.due("relax(46)", x.relax(46), 0);
        // frame 0: 3116 + 560 bits, 2304 loss less, gain 4114; frame 1: 809 + 140 bits, 1536 loss less, gain
        // 10971, then 91 and 672, 7384; 111 and 608, 5477; 139 and 544, 3913: less than frame 0, whose bits
        // are too many then; and 178 bits are too many, too
        RatePlanner two = pair();
        two.constant(20);
        Check.adjust(two, 20, 20);
        Check.due("relax to 560 more", two.relax(3116 + 809 + 560), 4);
        Check.due("the greatest gain", Check.quantizers(two), 20, 16);
        Check.adjust(two, 20, 20);
        Check.due("relax to 902 more", two.relax(3116 + 809 + 140 + 91 + 111 + 560), 4);
        Check.due("the greatest gain", Check.quantizers(two), 19, 17);
        Check.adjust(two, 20, 20);
        Check.due("relax to 139 more", two.relax(3116 + 809 + 139), 0);
        Check.adjust(two, 20, 10);
        Check.due("frame 0 alone", two.relax(3116 + 2540 + 560), 1);
        Check.due("frame 0 alone", Check.quantizers(two), 19, 10);
        // equals: the least place first, in the coding order 0, 3, 1, 2
        RatePlanner equals = Check.clip(400, 0, 60, 70, 60, 70, 100, 0);
        equals.constant(20);
        Check.adjust(equals, 10, 20, 20, 10);
        int bits = equals.planned(0, 1) + equals.planned(3, 1) + equals.bitsAt(1, 19) + equals.bitsAt(2, 20);
        Check.due("relax to one more", equals.relax(bits), 1);
        Check.due("the least place", Check.quantizers(equals), 10, 19, 20, 10);
    }

    private static void promise25RelaxInCodingOrder() {
        RatePlanner x = four();
        x.setBuffer(1000000, 100);
        // to 19: frame 0 +560 bits, gain 4114; frame 3 +210, 7314; frame 1 +52, 14769; frame 2 +88, 8727;
        // frame 1 to 18 then +35, 9600, and to 17 +41, 7414; frame 2 to 18 +57, 5894
        Check.due("relax to 140 more", x.relax(5157 + 140), 3);
        Check.due("frame 1 thrice", Check.quantizers(x), 20, 17, 20, 20);
        Check.adjust(x, 20, 20, 20, 20);
        Check.due("relax to 175 more", x.relax(5157 + 175), 3);
        Check.due("frames 1, 1, 2", Check.quantizers(x), 20, 18, 19, 20);
        Check.adjust(x, 20, 20, 20, 20);
        Check.due("relax to 426 more", x.relax(5157 + 426), 5);
        Check.due("frames 1, 1, 2, 1, 3", Check.quantizers(x), 20, 17, 19, 19);
        Check.adjust(x, 20, 20, 20, 20);
        x.setBuffer(5157, 100);
        Check.due("no bit is left in the buffer", x.relax(10000000), 0);
        x.setBuffer(5157 + 52, 100);
        Check.due("52 bits are left in the buffer", x.relax(10000000), 1);
        Check.due("frame 1", Check.quantizers(x), 20, 19, 20, 20);
        // before the call one frame underflows, and no other one may: frame 2 comes last, and lacks a bit
        Check.adjust(x, 20, 20, 20, 20);
        x.setBuffer(5156, 100);
        Check.due("the last underflows already", x.relax(5157 + 52), 1);
        Check.due("so that frame 1 can take more", Check.quantizers(x), 20, 19, 20, 20);
    }

    /** 59 frames whose bits don't increase from 51 to 38, and one that gains 2654208000 from 51 to 50. */
    private static void promise25GreatGain() {
        RatePlanner x = Check.wide(Check.frames(60, 1, 0));
        Check.due("a cut", x.set(59, 13, 20), 1);
        x.setInterval(1);
        x.setWeight(1, 8);
        x.setBuffer(1000000, 100);
        x.addZone(0, 59, 3);
        x.constant(51);
        Check.due("all 51", x.total(5), 60 * 51);
        Check.due("one bit more", x.bitsAt(59, 50) - x.bitsAt(59, 51), 1);
        Check.due("loss", x.lossAt(59, 51) - x.lossAt(59, 50), 2654208);
        Check.due("relax(10000000)", x.relax(10000000), 500);
        Check.due("the gain beyond 2000000000 comes first", x.planned(59, 0), 50);
        Check.due("then the least places", x.planned(37, 0), 38);
        Check.due("then the least places", x.planned(38, 0), 46);
        Check.due("then the least places", x.planned(39, 0), 51);
    }

    private static void promise25RelaxEnds() {
        RatePlanner x = Check.frames(60, 1, 0);
        x.setBuffer(1000000, 100);
        x.setRate(100000);
        x.constant(45);
        Check.due("sum before", x.total(5), 55 * 45 + 5 * 42);
        long before = x.total(5);
        Check.due("relax(10000000)", x.relax(10000000), 500);
        Check.due("500 rounds", before - x.total(5), 500);
        Check.due("relax(10000000) again", x.relax(10000000), 500);
        Check.due("1000 rounds", before - x.total(5), 1000);
    }

    private static void promise26Adjust() {
        RatePlanner x = pair();
        Check.due("without a plan", x.adjust(0, 20), STATE);
        Check.due("bad without a plan", x.adjust(2, 20), BAD);
        x.constant(20);
        Check.due("adjust(0, 0)", x.adjust(0, 0), 17);
        Check.due("adjust(0, 51)", x.adjust(0, 51), 0);
        Check.due("adjust(1, 7)", x.adjust(1, 7), 20);
        Check.due("quantizers", Check.quantizers(x), 51, 7);
        Check.due("adjust(-1, 20)", x.adjust(-1, 20), BAD);
        Check.due("adjust(2, 20)", x.adjust(2, 20), BAD);
        Check.due("adjust(0, -1)", x.adjust(0, -1), BAD);
        Check.due("adjust(0, 52)", x.adjust(0, 52), BAD);
        Check.due("quantizers after errors", Check.quantizers(x), 51, 7);
        Check.due("of no frames", new RatePlanner().adjust(0, 20), BAD);
    }
}
