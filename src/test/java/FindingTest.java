/** Promises 30 to 34: what would do. */
public final class FindingTest {
    private static final int NONE = RatePlanner.NONE, BAD = RatePlanner.BAD, STATE = RatePlanner.STATE;

    public static void main(String[] args) {
        promise30LeastSize();
        promise31LeastStart();
        promise32LeastRate();
        promise33BestConstant();
        promise34Demand();
        ofSixtyFrames();
        nothingChanges();
        Check.end("FindingTest");
    }

    /** Frames of 4484 and 809 bits with constant(20). */
    private static RatePlanner pair() {
        RatePlanner x = Check.clip(400, 100, 300, 50);
        x.constant(20);
        return x;
    }

    private static void promise30LeastSize() {
        RatePlanner x = pair();
        Check.due("leastSize()", x.leastSize(), 4983);
        x.setBuffer(60000, 100);
        Check.due("with the start 100", x.leastSize(), 4484);
        x.setRate(0);
        Check.due("without a rate", x.leastSize(), 5293);
        x.setBuffer(60000, 1);
        Check.due("with the start 1", x.leastSize(), 529300);
        x.setBuffer(60000, 0);
        Check.due("with the start 0", x.leastSize(), NONE);
        RatePlanner small = Check.clip(1, 0);
        small.constant(33);
        small.setBuffer(60000, 100);
        Check.due("42 bits", small.leastSize(), 100);
        small.setBuffer(60000, 42);
        Check.due("42 bits from 42 percent", small.leastSize(), 100);
        small.setBuffer(60000, 41);
        Check.due("42 bits from 41 percent", small.leastSize(), 103);
        RatePlanner great = Check.frames(4, 4000, 0);
        great.setInterval(1);
        great.setRange(0, 51);
        great.constant(0);
        great.setRate(0);
        great.setBuffer(100, 100);
        Check.due("4 times 320040 bits", great.leastSize(), NONE);
        great.setRate(93386);
        Check.due("1000002 bits are wanted", great.leastSize(), NONE);
        great.setRate(93387);
        Check.due("999999 bits are wanted", great.leastSize(), 999999);
    }

    private static void promise31LeastStart() {
        RatePlanner x = pair();
        Check.due("leastStart()", x.leastStart(), 8);
        x.setBuffer(4484, 3);
        Check.due("4484 of 4484", x.leastStart(), 100);
        x.setBuffer(4483, 3);
        Check.due("4484 of 4483", x.leastStart(), NONE);
        x.setBuffer(448400, 3);
        Check.due("4484 of 448400", x.leastStart(), 1);
        RatePlanner y = Check.frames(2, 1, 0);
        y.constant(33);
        y.setBuffer(100, 90);
        Check.due("42 of 100", y.leastStart(), 42);
    }

    private static void promise32LeastRate() {
        RatePlanner x = pair();
        Check.due("leastRate()", x.leastRate(), 0);
        x.setBuffer(5000, 90);
        Check.due("16 bits left for 809", x.leastRate(), 793);
        x.setBuffer(5000, 89);
        Check.due("4450 bits for 4484", x.leastRate(), NONE);
        RatePlanner y = Check.frames(2, 4000, 4000);
        y.setRange(0, 51);
        y.constant(0);
        y.adjust(0, 51);
        y.adjust(1, 12);
        // 932 bits and then 60040
        y.setBuffer(60040, 2);
        Check.due("60040 bits and 268 left", y.leastRate(), 60040 - (1200 - 932));
        y.setBuffer(60039, 2);
        Check.due("no rate makes the buffer greater", y.leastRate(), NONE);
        y.adjust(1, 5);
        y.setBuffer(1000000, 1);
        // 133373 bits, 9068 left
        Check.due("beyond the greatest rate", y.leastRate(), NONE);
    }

    private static void promise33BestConstant() {
        RatePlanner x = Check.clip(400, 100);
        x.setRange(0, 51);
        x.setBuffer(8040, 100);
        Check.due("bestConstant()", x.bestConstant(), 15);
        x.setBuffer(8039, 100);
        Check.due("one bit less", x.bestConstant(), 16);
        x.addZone(0, 0, 10);
        Check.due("with a zone", x.bestConstant(), 6);
        x.clearZones();
        x.setBuffer(1000000, 100);
        Check.due("the least quantizer", x.bestConstant(), 0);
        x.setBuffer(130, 100);
        // constant(51) means 48, with a step of 2560 and 165 bits
        Check.due("none will do", x.bestConstant(), NONE);
        x.setBuffer(165, 100);
        Check.due("the greatest will do", x.bestConstant(), 51);
        x.setRange(0, 12);
        x.setBuffer(8040, 100);
        Check.due("the greatest allowed will do", x.bestConstant(), 15);
        x.setRange(0, 11);
        Check.due("none allowed will do", x.bestConstant(), NONE);
        Check.due("there is no plan", x.count(3), 0);
        Check.due("of no frames", new RatePlanner().bestConstant(), STATE);
    }

    private static void promise34Demand() {
        RatePlanner x = Check.frames(4, 400, 100);
        x.constant(20);
        // bits by place: 4484, 1193, 508, 508
        Check.due("demand(0, 3)", x.demand(0, 3), 4484);
        Check.due("demand(1, 3)", x.demand(1, 3), 1193);
        Check.due("demand(2, 2)", x.demand(2, 2), 508);
        x.setRate(0);
        Check.due("demand(0, 3) without a rate", x.demand(0, 3), 4484 + 1193 + 508 + 508);
        Check.due("demand(0, 1) without a rate", x.demand(0, 1), 4484 + 1193);
        x.setRate(600);
        Check.due("demand(0, 3) at 600", x.demand(0, 3), 4484 + 1193 - 600);
        x.setRate(500);
        Check.due("demand(1, 3) at 500", x.demand(1, 3), 1193 + 8 + 8);
        x.setRate(100000);
        Check.due("demand(2, 3) at 100000", x.demand(2, 3), 508);
        Check.due("demand(-1, 3)", x.demand(-1, 3), BAD);
        Check.due("demand(4, 4)", x.demand(4, 4), BAD);
        Check.due("demand(2, 1)", x.demand(2, 1), BAD);
        Check.due("demand(0, 4)", x.demand(0, 4), BAD);
        x.adjust(0, 20);
        Check.due("demand(0, 0) of another quantizer", x.demand(0, 0), 3116);
        x.append(1, 1);
        Check.due("without a plan", x.demand(0, 3), STATE);
        Check.due("bad without a plan", x.demand(0, 5), BAD);
        Check.due("of no frames", new RatePlanner().demand(0, 0), BAD);
    }

    /** What is found will do, and one less won't: of frames of all types, several of which are near to underflow. */
    private static void ofSixtyFrames() {
        RatePlanner x = Check.load("400/100*20;300/460;300/50*20;90/140;700/30*18");
        x.setBuffer(40000, 35);
        x.setRate(1170);
        x.constant(20);
        int size = x.leastSize();
        int start = x.leastStart();
        int rate = x.leastRate();
        Check.holds("sizes, starts and rates within their bounds: " + size + ", " + start + ", " + rate,
            size > 100 && size < 1000000 && start > 0 && start < 100 && rate > 0 && rate < 100000);
        Check.due("underflows with the size " + size, underflows(x, size, 35, 1170), 0);
        Check.holds("underflows with one less", underflows(x, size - 1, 35, 1170) > 0);
        Check.due("underflows with the start " + start, underflows(x, 40000, start, 1170), 0);
        Check.holds("underflows with one less", underflows(x, 40000, start - 1, 1170) > 0);
        Check.due("underflows with the rate " + rate, underflows(x, 40000, 35, rate), 0);
        Check.holds("underflows with one less", underflows(x, 40000, 35, rate - 1) > 0);
        x.setBuffer(40000, 35);
        int best = x.bestConstant();
        Check.due("constant() of the best", x.constant(best), 0);
        Check.holds("constant() of one less", x.constant(best - 1) > 0);
    }

    private static long underflows(RatePlanner x, int size, int start, int rate) {
        return Check.buffered(x, size, start, rate).total(4);
    }

    private static void nothingChanges() {
        Check.says("what would do; nothing changes");
        RatePlanner x = pair();
        x.drop();
        Check.due("leastSize() without a plan", x.leastSize(), STATE);
        Check.due("leastStart() without a plan", x.leastStart(), STATE);
        Check.due("leastRate() without a plan", x.leastRate(), STATE);
        Check.due("leastSize() of no frames", new RatePlanner().leastSize(), STATE);
        x = pair();
        x.setRange(3, 40);
        x.addZone(0, 3, 2);
        long before = x.digest();
        x.leastSize();
        Check.due("digest() behind leastSize()", x.digest(), before);
        x.leastStart();
        Check.due("digest() behind leastStart()", x.digest(), before);
        x.leastRate();
        Check.due("digest() behind leastRate()", x.digest(), before);
        x.bestConstant();
        Check.due("digest() behind bestConstant()", x.digest(), before);
        x.demand(0, 1);
        Check.due("digest() behind demand()", x.digest(), before);
    }
}
