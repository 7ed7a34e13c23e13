/** The boundaries that the promises 10 to 19 name: settings, bits and loss. */
public final class SettingsEdgesTest {
    private static final int BAD = RatePlanner.BAD, FULL = RatePlanner.FULL;

    public static void main(String[] args) {
        interval();
        bridges();
        weight();
        range();
        buffer();
        rate();
        addZone();
        clearZones();
        bitsAt();
        lossAt();
        Check.end("SettingsEdgesTest");
    }

    /** A setting of one argument: each of these is taken and returned by the next; then the bad ones. */
    private static void chain(RatePlanner x, String name, int atFirst, int[] taken, int... bad) {
        int previous = atFirst;
        for (int value : taken) {
            for (int other : bad) {
                Check.due(name + "(" + other + ")", new Call(name, other).on(x), BAD);
            }
            Check.due(name + "(" + value + ")", new Call(name, value).on(x), previous);
            previous = value;
        }
    }

    private static void interval() {
        Check.says("interval: 1 to 60. Returns the previous interval; BAD.");
        RatePlanner x = Check.frames(60, 100, 0);
        chain(x, "setInterval", 12, new int[] {1, 60, 60, 1, 59, 2, 12}, 0, 61, -1);
        x.setInterval(1);
        Check.due("groups", x.count(2), 60);
        x.setInterval(60);
        Check.due("groups", x.count(2), 1);
        Check.due("count(5)", x.count(5), 60);
    }

    private static void bridges() {
        Check.says("bridges: 0 to 3. Returns the previous number; BAD.");
        RatePlanner x = Check.frames(5, 100, 0);
        chain(x, "setBridges", 2, new int[] {0, 3, 3, 1, 0, 2}, -1, 4);
        x.setBridges(3);
        Check.due("types", Check.property(x, 2), 0, 2, 2, 2, 1);
        x.setBridges(0);
        Check.due("types", Check.property(x, 2), 0, 1, 1, 1, 1);
        Check.due("count(6)", x.count(6), 0);
    }

    private static void weight() {
        Check.says("scene: 0 to 59; weight: 1 to 8. Returns the previous weight; BAD.");
        RatePlanner x = Check.frames(60, 10, 16);
        int[] scenes = {0, 59, 30};
        for (int scene : scenes) {
            Check.due("setWeight(" + scene + ", 1)", x.setWeight(scene, 1), 4);
            Check.due("lossAt", x.lossAt(scene, 0), 18);
            Check.due("setWeight(" + scene + ", 0)", x.setWeight(scene, 0), BAD);
            Check.due("setWeight(" + scene + ", 9)", x.setWeight(scene, 9), BAD);
            Check.due("setWeight(" + scene + ", 8)", x.setWeight(scene, 8), 1);
            Check.due("lossAt", x.lossAt(scene, 0), 150);
            Check.due("setWeight(" + scene + ", 8)", x.setWeight(scene, 8), 8);
        }
        Check.due("setWeight(60, 1)", x.setWeight(60, 1), BAD);
        Check.due("setWeight(-1, 1)", x.setWeight(-1, 1), BAD);
        Check.due("the scene beside", x.setWeight(58, 4), 4);
        Check.due("the scene beside", x.setWeight(1, 4), 4);
    }

    private static void range() {
        Check.says("least: 0 to 51; greatest: least to 51. Returns 100 * (the previous least one) + (the previous greatest"
            + " one); BAD.");
        RatePlanner x = Check.clip(400, 100);
        int[][] ranges = {{10, 45}, {0, 0}, {0, 51}, {51, 51}, {50, 51}, {0, 1}, {25, 25}, {9, 10}};
        for (int i = 1; i < ranges.length; i++) {
            Check.due("setRange(-1, 51)", x.setRange(-1, 51), BAD);
            Check.due("setRange(0, 52)", x.setRange(0, 52), BAD);
            Check.due("setRange(52, 52)", x.setRange(52, 52), BAD);
            Check.due("setRange(51, 50)", x.setRange(51, 50), BAD);
            Check.due("setRange(1, 0)", x.setRange(1, 0), BAD);
            Check.due("setRange(0, -1)", x.setRange(0, -1), BAD);
            Check.due("setRange", x.setRange(ranges[i][0], ranges[i][1]), 100 * ranges[i - 1][0] + ranges[i - 1][1]);
            x.constant(0);
            Check.due("the least", x.planned(0, 0), ranges[i][0]);
            x.addZone(0, 0, 10);
            x.constant(51);
            x.clearZones();
            Check.due("the greatest", x.planned(0, 0), ranges[i][1]);
        }
        Check.says("A plan stays as it is.");
        x.setRange(0, 51);
        x.constant(3);
        x.setRange(51, 51);
        Check.due("below the range", x.planned(0, 0), 0);
        x.constant(51);
        x.setRange(0, 0);
        Check.due("above the range", x.planned(0, 0), 51);
    }

    private static void buffer() {
        Check.says("size: 100 to 1000000; start: 0 to 100. Returns the previous size; BAD.");
        RatePlanner x = Check.clip(400, 100);
        x.constant(20);
        int[][] buffers = {{60000, 90}, {100, 100}, {1000000, 0}, {1000000, 100}, {100, 0}, {101, 1}, {999999, 99}};
        for (int i = 1; i < buffers.length; i++) {
            int[] before = buffers[i - 1];
            Check.due("setBuffer(99, 0)", x.setBuffer(99, 0), BAD);
            Check.due("setBuffer(1000001, 0)", x.setBuffer(1000001, 0), BAD);
            Check.due("setBuffer(100, -1)", x.setBuffer(100, -1), BAD);
            Check.due("setBuffer(100, 101)", x.setBuffer(100, 101), BAD);
            Check.due("size behind the bad ones", x.count(7), before[0]);
            Check.due("start behind the bad ones", x.count(8), before[1]);
            Check.due("setBuffer", x.setBuffer(buffers[i][0], buffers[i][1]), before[0]);
            Check.due("content", x.planned(0, 3), (long) buffers[i][0] * buffers[i][1] / 100);
        }
    }

    private static void rate() {
        Check.says("rate: 0 to 100000. Returns the previous rate; BAD.");
        RatePlanner x = Check.frames(2, 400, 100);
        chain(x, "setRate", 4000, new int[] {0, 100000, 100000, 0, 1, 99999}, -1, 100001);
        x.setBuffer(1000000, 0);
        x.constant(20);
        for (int rate : new int[] {0, 1, 99999, 100000}) {
            x.setRate(rate);
            Check.due("content with the rate " + rate, x.planned(1, 3), rate);
        }
    }

    private static void addZone() {
        Check.says("first: its first frame, 0 to 59; last: its last frame, first to 59; offset: -10 to 10. Returns the number"
            + " of zones; BAD; FULL if there are 6.");
        RatePlanner x = Check.frames(60, 100, 0);
        x.setInterval(60);
        x.setBridges(0);
        int[][] bad = {{-1, 0, 0}, {-1, -1, 0}, {60, 60, 0}, {59, 60, 0}, {1, 0, 0}, {59, 58, 0}, {0, 0, -11}, {0, 0, 11}};
        int[][] taken = {{0, 0, -10}, {0, 0, 10}, {59, 59, -10}, {58, 59, 10}, {0, 59, 1}, {30, 30, 0}};
        for (int zone = 0; zone <= 6; zone++) {
            for (int[] row : bad) {
                Check.due("a bad zone beside " + zone, x.addZone(row[0], row[1], row[2]), BAD);
            }
            if (zone < 6) {
                Check.due("zone " + zone, x.addZone(taken[zone][0], taken[zone][1], taken[zone][2]), zone + 1);
            }
        }
        for (int[] row : taken) {
            Check.due("a seventh zone", x.addZone(row[0], row[1], row[2]), FULL);
        }
        x.constant(25);
        Check.due("frame 0", x.planned(0, 0), 22 + 1);
        Check.due("frame 1", x.planned(1, 0), 26);
        Check.due("frame 57", x.planned(57, 0), 26);
        Check.due("frame 58", x.planned(58, 0), 36);
        Check.due("frame 59", x.planned(59, 0), 26);
    }

    private static void clearZones() {
        Check.says("Removes all zones. Returns how many there were.");
        RatePlanner x = Check.frames(2, 100, 0);
        Check.due("clearZones() of none", x.clearZones(), 0);
        for (int turn = 0; turn < 2; turn++) {
            for (int zone = 1; zone <= 6; zone++) {
                Check.due("addZone", x.addZone(0, 59, 1), zone);
            }
            x.constant(20);
            Check.due("six of them", Check.quantizers(x), 23, 26);
            Check.due("clearZones() of six", x.clearZones(), 6);
            Check.due("clearZones() again", x.clearZones(), 0);
            x.constant(20);
            Check.due("none of them", Check.quantizers(x), 17, 20);
        }
        x.addZone(0, 0, 10);
        Check.due("clearZones() of one", x.clearZones(), 1);
    }

    private static void bitsAt() {
        Check.says("quantizer: 0 to 51. Returns the bits; BAD.");
        RatePlanner x = Check.frames(60, 4000, 4000);
        Check.due("frame 0 at 0", x.bitsAt(0, 0), 320040);
        Check.due("frame 0 at 51", x.bitsAt(0, 51), 40 + 3200000 / 3584);
        Check.due("frame 59 at 0", x.bitsAt(59, 0), 240040);
        Check.due("frame 59 at 51", x.bitsAt(59, 51), 40 + 2400000 / 3584);
        Check.due("bitsAt(60, 0)", x.bitsAt(60, 0), BAD);
        Check.due("bitsAt(0, 52)", x.bitsAt(0, 52), BAD);
        Check.due("bitsAt(0, -1)", x.bitsAt(0, -1), BAD);
        x.setRange(20, 30);
        Check.due("whatever is allowed", x.bitsAt(0, 0), 320040);
        Check.due("without a plan", x.count(3), 0);
        Check.due("of no frames", new RatePlanner().bitsAt(0, 0), BAD);
    }

    private static void lossAt() {
        Check.says("quantizer: 0 to 51. Returns the loss; BAD.");
        RatePlanner x = Check.frames(60, 4000, 4000);
        x.setWeight(0, 8);
        Check.due("frame 0 at 0", x.lossAt(0, 0), 150);
        Check.due("frame 0 at 51", x.lossAt(0, 51), 19267584);
        Check.due("frame 59 at 0", x.lossAt(59, 0), 100);
        Check.due("frame 59 at 51", x.lossAt(59, 51), 12845056);
        x.setWeight(0, 1);
        Check.due("a bridge at 0", x.lossAt(1, 0), 6);
        Check.due("lossAt(60, 0)", x.lossAt(60, 0), BAD);
        Check.due("lossAt(0, 52)", x.lossAt(0, 52), BAD);
        Check.due("lossAt(0, -1)", x.lossAt(0, -1), BAD);
        x.setRange(20, 30);
        Check.due("whatever is allowed", x.lossAt(1, 51), 802816);
        Check.due("of no frames", new RatePlanner().lossAt(0, 0), BAD);
    }
}
