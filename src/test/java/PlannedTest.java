/** Promises 27 to 29: what a plan is like. */
public final class PlannedTest {
    private static final int BAD = RatePlanner.BAD, STATE = RatePlanner.STATE;

    public static void main(String[] args) {
        promise27Planned();
        promise27CodingOrder();
        promise28Total();
        promise29Scene();
        promise29Errors();
        Check.end("PlannedTest");
    }

    /** Frames of 4484 and 809 bits with constant(20). */
    private static RatePlanner pair() {
        RatePlanner x = Check.clip(400, 100, 300, 50);
        x.constant(20);
        return x;
    }

    private static long[] planned(RatePlanner x, int frame) {
        long[] row = new long[7];
        for (int what = 0; what < row.length; what++) {
            row[what] = x.planned(frame, what);
        }
        return row;
    }

    private static long[] totals(RatePlanner x) {
        long[] row = new long[7];
        for (int what = 0; what < row.length; what++) {
            row[what] = x.total(what);
        }
        return row;
    }

    private static void promise27Planned() {
        RatePlanner x = pair();
        Check.due("frame 0", planned(x, 0), 17, 4484, 3888, 54000, 49516, 0, 0);
        Check.due("frame 1", planned(x, 1), 20, 809, 5408, 53516, 52707, 0, 0);
        x.setBuffer(5000, 50);
        Check.due("frame 0 underflows", planned(x, 0), 17, 4484, 3888, 2500, 0, 1984, 0);
        Check.due("frame 1 behind it", planned(x, 1), 20, 809, 5408, 4000, 3191, 0, 0);
        x.setRate(6000);
        Check.due("frame 1 behind a surplus", planned(x, 1), 20, 809, 5408, 5000, 4191, 0, 1000);
        x.setRate(5000);
        Check.due("frame 1 without a surplus", planned(x, 1), 20, 809, 5408, 5000, 4191, 0, 0);
        x.setBuffer(4484, 100);
        Check.due("exactly enough", planned(x, 0), 17, 4484, 3888, 4484, 0, 0, 0);
        x.setBuffer(4483, 100);
        Check.due("one bit too few", planned(x, 0), 17, 4484, 3888, 4483, 0, 1, 0);
        Check.due("planned(-1, 0)", x.planned(-1, 0), BAD);
        Check.due("planned(2, 0)", x.planned(2, 0), BAD);
        Check.due("planned(0, -1)", x.planned(0, -1), BAD);
        Check.due("planned(0, 7)", x.planned(0, 7), BAD);
        x.append(1, 1);
        Check.due("without a plan", x.planned(0, 0), STATE);
        Check.due("bad frame without a plan", x.planned(3, 0), BAD);
        Check.due("bad what without a plan", x.planned(0, 7), BAD);
        Check.due("of no frames", new RatePlanner().planned(0, 0), BAD);
    }

    private static void promise27CodingOrder() {
        RatePlanner x = Check.frames(4, 400, 100);
        x.setBuffer(6000, 100);
        x.setRate(300);
        x.constant(20);
        // places 0, 3, 1, 2: 4484, 1193, 508 and 508 bits (works 1600, 600, 300, 300; steps 72, 104, 128, 128)
        Check.due("frame 0", planned(x, 0), 17, 4484, 3888, 6000, 1516, 0, 0);
        Check.due("frame 3", planned(x, 3), 20, 1193, 5408, 1816, 623, 0, 0);
        Check.due("frame 1", planned(x, 1), 22, 508, 4096, 923, 415, 0, 0);
        Check.due("frame 2", planned(x, 2), 22, 508, 4096, 715, 207, 0, 0);
        x.setBuffer(3000, 100);
        x.setRate(1100);
        Check.due("frame 0 lacks", planned(x, 0), 17, 4484, 3888, 3000, 0, 1484, 0);
        Check.due("frame 3 lacks", planned(x, 3), 20, 1193, 5408, 1100, 0, 93, 0);
        Check.due("frame 1 does not", planned(x, 1), 22, 508, 4096, 1100, 592, 0, 0);
        x.setRate(2900);
        Check.due("frame 3 without a surplus", planned(x, 3), 20, 1193, 5408, 2900, 1707, 0, 0);
        Check.due("frame 1 behind a surplus", planned(x, 1), 22, 508, 4096, 3000, 2492, 0, 1607);
        Check.due("frame 2 behind a surplus", planned(x, 2), 22, 508, 4096, 3000, 2492, 0, 2392);
    }

    private static void promise28Total() {
        RatePlanner x = pair();
        Check.due("totals", totals(x), 5293, 9296, 0, 0, 0, 37, 3);
        x.setBuffer(5000, 50);
        x.setRate(6000);
        Check.due("totals", totals(x), 5293, 9296, 1984, 1000, 1, 37, 3);
        x.setBuffer(100, 0);
        x.setRate(100000);
        Check.due("totals of a small buffer", totals(x), 5293, 9296, 4484 + 709, 99900, 2, 37, 3);
        Check.due("total(-1)", x.total(-1), BAD);
        Check.due("total(7)", x.total(7), BAD);
        x.drop();
        Check.due("without a plan", x.total(0), STATE);
        Check.due("bad without a plan", x.total(7), BAD);
        RatePlanner y = Check.frames(4, 400, 100);
        y.constant(20);
        y.adjust(0, 10);
        y.adjust(1, 20);
        y.adjust(2, 15);
        y.adjust(3, 40);
        Check.due("the sum of quantizers", y.total(5), 85);
        Check.due("changes in coding order 10, 40, 20, 15", y.total(6), 30 + 20 + 5);
        Check.due("of no frames", new RatePlanner().total(0), STATE);
        RatePlanner most = Check.frames(60, 4000, 4000);
        most.setInterval(1);
        most.setRange(51, 51);
        most.setWeight(0, 8);
        most.constant(51);
        Check.due("the greatest losses", most.total(1), 60L * 19267584L);
    }

    private static void promise29Scene() {
        RatePlanner x = Check.frames(7, 400, 100);
        x.setInterval(2);
        x.set(3, 100, 151);
        x.setWeight(1, 7);
        x.setWeight(2, 8);
        // intra 0, 2 and 3, 5; the scenes 0 to 2 and 3 to 6
        Check.due("scenes", x.count(1), 2);
        Check.due("groups", x.count(2), 4);
        Check.due("first of scene 0", x.scene(0, 0), 0);
        Check.due("first of scene 1", x.scene(1, 0), 3);
        Check.due("frames of scene 0", x.scene(0, 1), 3);
        Check.due("frames of scene 1", x.scene(1, 1), 4);
        Check.due("weight of scene 0", x.scene(0, 2), 4);
        Check.due("weight of scene 1", x.scene(1, 2), 7);
        Check.due("intra frames of scene 0", x.scene(0, 5), 2);
        Check.due("intra frames of scene 1", x.scene(1, 5), 2);
        x.constant(20);
        // works 1600, 600, 1600 and 400, 600, 1600, 600 with the steps 72, 104, 72 and 72, 104, 72, 104
        Check.due("bits of scene 0", x.scene(0, 3), 4484 + 1193 + 4484);
        Check.due("bits of scene 1", x.scene(1, 3), 1151 + 1193 + 4484 + 1193);
        Check.due("mean of scene 0", x.scene(0, 4), 10 * (17 + 20 + 17) / 3);
        x.adjust(1, 22);
        Check.due("mean of scene 0, rounded down", x.scene(0, 4), 186);
        Check.due("mean of scene 1", x.scene(1, 4), 185);
    }

    private static void promise29Errors() {
        RatePlanner x = pair();
        Check.due("scene(-1, 0)", x.scene(-1, 0), BAD);
        Check.due("scene(1, 0)", x.scene(1, 0), BAD);
        Check.due("scene(0, -1)", x.scene(0, -1), BAD);
        Check.due("scene(0, 6)", x.scene(0, 6), BAD);
        x.append(300, 50);
        int[] due = {0, 3, 4, STATE, STATE, 1};
        for (int what = 0; what < due.length; what++) {
            Check.due("without a plan scene(0, " + what + ")", x.scene(0, what), due[what]);
        }
        Check.due("bad scene without a plan", x.scene(1, 3), BAD);
        Check.due("of no frames", new RatePlanner().scene(0, 0), BAD);
        Check.due("of no frames", new RatePlanner().scene(0, 3), BAD);
    }
}
