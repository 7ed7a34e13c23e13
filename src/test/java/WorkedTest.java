/**
 * A clip of two scenes and four groups, with 1 bridge and with 3, worked out from the document without the class:
 * all that is told of it and of a plan for it, and what one plan behind the other becomes.
 */
public final class WorkedTest {
    private static final int NONE = RatePlanner.NONE;

    private static final int[][] FRAMES_WITH_1 = {
        // type, scene, place, work, first frame and number of frames of the group
        {0, 0, 0, 1600, 0, 4}, {2, 0, 2, 300, 0, 4}, {1, 0, 1, 600, 0, 4}, {1, 0, 3, 600, 0, 4},
        {0, 0, 4, 1600, 4, 1},
        {0, 1, 5, 1200, 5, 4}, {2, 1, 7, 150, 5, 4}, {1, 1, 6, 300, 5, 4}, {1, 1, 8, 300, 5, 4},
        {0, 1, 9, 480, 9, 3}, {2, 1, 11, 150, 9, 3}, {1, 1, 10, 300, 9, 3}};

    private static final int[][] FRAMES_WITH_3 = {
        {0, 0, 0, 1600, 0, 4}, {2, 0, 2, 300, 0, 4}, {2, 0, 3, 300, 0, 4}, {1, 0, 1, 600, 0, 4},
        {0, 0, 4, 1600, 4, 1},
        {0, 1, 5, 1200, 5, 4}, {2, 1, 7, 150, 5, 4}, {2, 1, 8, 150, 5, 4}, {1, 1, 6, 300, 5, 4},
        {0, 1, 9, 480, 9, 3}, {2, 1, 11, 150, 9, 3}, {1, 1, 10, 300, 9, 3}};

    private static final int[][] PLANNED_WITH_1 = {
        // quantizer, bits, loss, content before and after, lacking, stuffed
        {17, 4484, 1944, 3000, 0, 1484, 0},
        {22, 508, 2048, 2707, 2199, 0, 0},
        {20, 1193, 2704, 1950, 757, 0, 0},
        {20, 1193, 2704, 4149, 2956, 0, 0},
        {17, 4484, 1944, 4906, 422, 0, 0},
        {20, 2347, 14196, 2372, 25, 0, 0},
        {25, 210, 13552, 3309, 3099, 0, 0},
        {20, 616, 9464, 1975, 1359, 0, 0},
        {20, 616, 9464, 5000, 4384, 0, 49},
        {17, 1373, 6804, 5000, 3627, 0, 1334},
        {22, 274, 7168, 5000, 4726, 0, 1334},
        {20, 616, 9464, 5000, 4384, 0, 577}};

    private static final int[][] PLANNED_WITH_3 = {
        {17, 4484, 1944, 3000, 0, 1484, 0},
        {22, 508, 2048, 2707, 2199, 0, 0},
        {22, 508, 2048, 4149, 3641, 0, 0},
        {20, 1193, 2704, 1950, 757, 0, 0},
        {17, 4484, 1944, 5000, 516, 0, 591},
        {20, 2347, 14196, 2466, 119, 0, 0},
        {25, 210, 13552, 3403, 3193, 0, 0},
        {22, 274, 7168, 5000, 4726, 0, 143},
        {20, 616, 9464, 2069, 1453, 0, 0},
        {17, 1373, 6804, 5000, 3627, 0, 1676},
        {22, 274, 7168, 5000, 4726, 0, 1334},
        {20, 616, 9464, 5000, 4384, 0, 577}};

    public static void main(String[] args) {
        told(1, FRAMES_WITH_1, PLANNED_WITH_1);
        sums(1, new long[] {17914, 81456, 1484, 3294, 1, 240, 31},
            new int[][] {{0, 5, 2, 11862, 192, 2}, {5, 7, 7, 6052, 205, 2}});
        found(1, 3727);
        plansWith1();
        told(3, FRAMES_WITH_3, PLANNED_WITH_3);
        sums(3, new long[] {16887, 78504, 1484, 4321, 1, 244, 31},
            new int[][] {{0, 5, 2, 11177, 196, 2}, {5, 7, 7, 5710, 208, 2}});
        found(3, 3042);
        plansWith3();
        Check.end("WorkedTest");
    }

    private static RatePlanner clip(int bridges) {
        RatePlanner x = Check.buffered(Check.load("400/100*5;300/460;120/90*6"), 5000, 60, 1950);
        x.setInterval(4);
        x.setBridges(bridges);
        x.setWeight(0, 2);
        x.setWeight(1, 7);
        x.addZone(5, 6, 3);
        return x;
    }

    private static RatePlanner planned(int bridges) {
        RatePlanner x = clip(bridges);
        Check.due("constant(20)", x.constant(20), 1);
        return x;
    }

    private static void told(int bridges, int[][] frames, int[][] planned) {
        RatePlanner x = planned(bridges);
        for (int frame = 0; frame < frames.length; frame++) {
            String of = "(" + frame + ", ...) with " + bridges;
            for (int what = 2; what <= 7; what++) {
                Check.due("frame" + of + " of " + what, x.frame(frame, what), frames[frame][what - 2]);
            }
            for (int what = 0; what <= 6; what++) {
                Check.due("planned" + of + " of " + what, x.planned(frame, what), planned[frame][what]);
            }
            Check.due("coded" + of, x.coded(frames[frame][2]), frame);
            Check.due("bitsAt" + of, x.bitsAt(frame, planned[frame][0]), planned[frame][1]);
            Check.due("lossAt" + of, x.lossAt(frame, planned[frame][0]), planned[frame][2]);
        }
    }

    private static void sums(int bridges, long[] totals, int[][] scenes) {
        RatePlanner x = planned(bridges);
        for (int what = 0; what <= 6; what++) {
            Check.due("total(" + what + ") with " + bridges, x.total(what), totals[what]);
        }
        for (int what = 0; what <= 5; what++) {
            Check.due("scene(0, " + what + ") with " + bridges, x.scene(0, what), scenes[0][what]);
            Check.due("scene(1, " + what + ") with " + bridges, x.scene(1, what), scenes[1][what]);
        }
        int[] counts = {12, 2, 4, 1, 1, 4, bridges, 5000, 60, 1950, 0};
        for (int what = 0; what <= 10; what++) {
            Check.due("count(" + what + ") with " + bridges, x.count(what), counts[what]);
        }
    }

    private static void found(int bridges, int demand) {
        RatePlanner x = planned(bridges);
        Check.due("leastSize()", x.leastSize(), 7474);
        Check.due("leastStart()", x.leastStart(), 90);
        Check.due("leastRate()", x.leastRate(), NONE);
        Check.due("bestConstant()", x.bestConstant(), 24);
        Check.due("demand(0, 11)", x.demand(0, 11), 4484);
        Check.due("demand(4, 8)", x.demand(4, 8), 4881);
        Check.due("demand(5, 11)", x.demand(5, 11), 2347);
        Check.due("demand(3, 4)", x.demand(3, 4), demand);
    }

    private static void made(RatePlanner x, Call call, int due, long... quantizers) {
        Check.due(call.toString(), call.on(x), due);
        Check.due("the plan behind " + call, Check.quantizers(x), quantizers);
    }

    private static void plansWith1() {
        RatePlanner x = clip(1);
        made(x, new Call("constant", 20), 1, 17, 22, 20, 20, 17, 20, 25, 20, 20, 17, 22, 20);
        made(x, new Call("smooth", 2), 5, 17, 21, 19, 20, 18, 20, 22, 20, 20, 18, 22, 20);
        made(x, new Call("repair"), 4, 21, 21, 19, 20, 18, 20, 22, 20, 20, 18, 22, 20);
        made(x, new Call("relax", 15000), 0, 21, 21, 19, 20, 18, 20, 22, 20, 20, 18, 22, 20);
        made(x, new Call("relax", 10000000), 64, 21, 19, 18, 20, 18, 20, 10, 10, 10, 11, 10, 10);
        made(x, new Call("control", 22, 40), 2, 15, 18, 26, 10, 19, 26, 15, 21, 10, 10, 11, 11);
        made(x, new Call("relax", 10000000), 41, 10, 18, 20, 10, 10, 22, 10, 11, 10, 10, 10, 10);
        made(x, new Call("repair"), 26, 21, 18, 20, 17, 18, 22, 10, 11, 10, 10, 10, 10);
        made(x, new Call("distribute", 14000), 0, 28, 20, 23, 23, 28, 24, 15, 15, 15, 17, 12, 15);
        made(x, new Call("repair"), 0, 28, 20, 23, 23, 28, 24, 15, 15, 15, 17, 12, 15);
        made(x, new Call("smooth", 1), 10, 28, 26, 27, 25, 26, 24, 22, 23, 21, 20, 18, 19);
        made(x, new Call("distribute", 30000), 1, 21, 14, 17, 17, 21, 17, 13, 10, 10, 10, 10, 10);
        made(x, new Call("repair"), 9, 21, 19, 19, 19, 21, 17, 13, 10, 10, 10, 10, 10);
        made(x, new Call("relax", 20000), 0, 21, 19, 19, 19, 21, 17, 13, 10, 10, 10, 10, 10);
    }

    private static void plansWith3() {
        RatePlanner x = clip(3);
        made(x, new Call("constant", 20), 1, 17, 22, 22, 20, 17, 20, 25, 22, 20, 17, 22, 20);
        made(x, new Call("smooth", 2), 5, 17, 21, 22, 19, 20, 20, 22, 22, 20, 20, 22, 20);
        made(x, new Call("repair"), 4, 21, 21, 22, 19, 20, 20, 22, 22, 20, 20, 22, 20);
        made(x, new Call("relax", 15000), 20, 21, 21, 22, 19, 20, 20, 17, 17, 18, 18, 18, 18);
        made(x, new Call("relax", 10000000), 56, 21, 18, 19, 19, 20, 16, 10, 10, 10, 10, 10, 10);
        made(x, new Call("control", 22, 40), 2, 15, 18, 10, 26, 10, 26, 15, 10, 21, 10, 11, 11);
        made(x, new Call("relax", 10000000), 45, 10, 10, 10, 16, 10, 22, 10, 10, 10, 10, 10, 10);
        made(x, new Call("repair"), 32, 21, 16, 16, 17, 18, 22, 10, 10, 10, 10, 10, 10);
        made(x, new Call("distribute", 14000), 0, 27, 20, 20, 23, 27, 23, 15, 12, 14, 17, 12, 14);
        made(x, new Call("repair"), 0, 27, 20, 20, 23, 27, 23, 15, 12, 14, 17, 12, 14);
        made(x, new Call("smooth", 1), 10, 27, 25, 24, 26, 25, 23, 21, 20, 22, 19, 17, 18);
        made(x, new Call("distribute", 30000), 2, 20, 14, 14, 16, 20, 17, 13, 10, 10, 10, 10, 10);
        made(x, new Call("repair"), 9, 21, 17, 17, 18, 20, 17, 13, 10, 10, 10, 10, 10);
        made(x, new Call("relax", 20000), 0, 21, 17, 17, 18, 20, 17, 13, 10, 10, 10, 10, 10);
    }
}
