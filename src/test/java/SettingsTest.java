/** Promises 10 to 17: the settings. */
public final class SettingsTest {
    private static final int BAD = RatePlanner.BAD, FULL = RatePlanner.FULL;
    private static final int LOWEST = Integer.MIN_VALUE, HIGHEST = Integer.MAX_VALUE;

    public static void main(String[] args) {
        promise10SetInterval();
        promise11SetBridges();
        promise12SetWeight();
        promise13SetRange();
        promise14SetBuffer();
        promise15SetRate();
        promise16AddZone();
        promise17ClearZones();
        Check.end("SettingsTest");
    }

    private static RatePlanner planned() {
        RatePlanner x = Check.frames(5, 400, 100);
        x.constant(20);
        return x;
    }

    private static void promise10SetInterval() {
        RatePlanner x = planned();
        for (int bad : new int[] {0, 61, -1, LOWEST, HIGHEST}) {
            Check.due("setInterval(" + bad + ")", x.setInterval(bad), BAD);
        }
        Check.due("interval after errors", x.count(5), 12);
        Check.due("plan after errors", x.count(3), 1);
        Check.due("setInterval(1)", x.setInterval(1), 12);
        Check.due("plan then", x.count(3), 0);
        Check.due("groups", x.count(2), 5);
        Check.due("setInterval(60)", x.setInterval(60), 1);
        Check.due("groups", x.count(2), 1);
        x.constant(20);
        Check.due("setInterval(60)", x.setInterval(60), 60);
        Check.due("the same interval discards the plan too", x.count(3), 0);
        RatePlanner y = Check.frames(25, 400, 0);
        Check.due("groups of 12 first", y.count(2), 3);
        Check.due("type of 11", y.frame(11, 2), 1);
        Check.due("type of 12", y.frame(12, 2), 0);
        Check.due("type of 24", y.frame(24, 2), 0);
    }

    private static void promise11SetBridges() {
        RatePlanner x = planned();
        for (int bad : new int[] {-1, 4, LOWEST, HIGHEST}) {
            Check.due("setBridges(" + bad + ")", x.setBridges(bad), BAD);
        }
        Check.due("bridges after errors", x.count(6), 2);
        Check.due("plan after errors", x.count(3), 1);
        Check.due("types with 2", Check.property(x, 2), 0, 2, 2, 1, 1);
        Check.due("setBridges(0)", x.setBridges(0), 2);
        Check.due("plan then", x.count(3), 0);
        Check.due("types with 0", Check.property(x, 2), 0, 1, 1, 1, 1);
        Check.due("setBridges(3)", x.setBridges(3), 0);
        Check.due("types with 3", Check.property(x, 2), 0, 2, 2, 2, 1);
        Check.due("setBridges(1)", x.setBridges(1), 3);
        Check.due("types with 1", Check.property(x, 2), 0, 2, 1, 2, 1);
        x.constant(20);
        Check.due("setBridges(1)", x.setBridges(1), 1);
        Check.due("the same number discards the plan too", x.count(3), 0);
    }

    private static void promise12SetWeight() {
        RatePlanner x = planned();
        Check.due("setWeight(-1, 4)", x.setWeight(-1, 4), BAD);
        Check.due("setWeight(60, 4)", x.setWeight(60, 4), BAD);
        Check.due("setWeight(0, 0)", x.setWeight(0, 0), BAD);
        Check.due("setWeight(0, 9)", x.setWeight(0, 9), BAD);
        Check.due("setWeight(HIGHEST, LOWEST)", x.setWeight(HIGHEST, LOWEST), BAD);
        Check.due("loss before", x.planned(0, 2), 4 * 3 * 72 * 72 / 16);
        Check.due("setWeight(0, 8)", x.setWeight(0, 8), 4);
        Check.due("the plan stays", x.count(3), 1);
        Check.due("its quantizer stays", x.planned(0, 0), 17);
        Check.due("its loss changes", x.planned(0, 2), 8 * 3 * 72 * 72 / 16);
        Check.due("setWeight(0, 1)", x.setWeight(0, 1), 8);
        Check.due("setWeight(59, 7)", x.setWeight(59, 7), 4);
        Check.due("setWeight(59, 4)", x.setWeight(59, 4), 7);
        Check.due("setWeight(0, 1)", x.setWeight(0, 1), 1);
    }

    private static void promise13SetRange() {
        RatePlanner x = planned();
        Check.due("setRange(-1, 45)", x.setRange(-1, 45), BAD);
        Check.due("setRange(52, 52)", x.setRange(52, 52), BAD);
        Check.due("setRange(10, 9)", x.setRange(10, 9), BAD);
        Check.due("setRange(10, 52)", x.setRange(10, 52), BAD);
        Check.due("setRange(LOWEST, HIGHEST)", x.setRange(LOWEST, HIGHEST), BAD);
        Check.due("setRange(30, 40)", x.setRange(30, 40), 1045);
        Check.due("the plan stays", x.planned(0, 0), 17);
        Check.due("setRange(0, 51)", x.setRange(0, 51), 3040);
        Check.due("setRange(51, 51)", x.setRange(51, 51), 51);
        x.constant(0);
        Check.due("a new plan keeps to it", Check.quantizers(x), 51, 51, 51, 51, 51);
        Check.due("setRange(0, 0)", x.setRange(0, 0), 5151);
        Check.due("the plan stays", x.planned(0, 0), 51);
        x.constant(51);
        Check.due("a new plan keeps to it", Check.quantizers(x), 0, 0, 0, 0, 0);
    }

    private static void promise14SetBuffer() {
        RatePlanner x = planned();
        Check.due("setBuffer(99, 50)", x.setBuffer(99, 50), BAD);
        Check.due("setBuffer(1000001, 50)", x.setBuffer(1000001, 50), BAD);
        Check.due("setBuffer(100, -1)", x.setBuffer(100, -1), BAD);
        Check.due("setBuffer(100, 101)", x.setBuffer(100, 101), BAD);
        Check.due("setBuffer(HIGHEST, 50)", x.setBuffer(HIGHEST, 50), BAD);
        Check.due("content at first", x.planned(0, 3), 54000);
        Check.due("setBuffer(100, 0)", x.setBuffer(100, 0), 60000);
        Check.due("the plan stays", x.count(3), 1);
        Check.due("content at first", x.planned(0, 3), 0);
        Check.due("setBuffer(1000000, 100)", x.setBuffer(1000000, 100), 100);
        Check.due("content at first", x.planned(0, 3), 1000000);
        Check.due("count(7)", x.count(7), 1000000);
        Check.due("count(8)", x.count(8), 100);
        Check.due("setBuffer(199, 50)", x.setBuffer(199, 50), 1000000);
        Check.due("content is rounded down", x.planned(0, 3), 99);
    }

    private static void promise15SetRate() {
        RatePlanner x = planned();
        x.setBuffer(1000000, 0);
        for (int bad : new int[] {-1, 100001, LOWEST, HIGHEST}) {
            Check.due("setRate(" + bad + ")", x.setRate(bad), BAD);
        }
        Check.due("rate after errors", x.count(9), 4000);
        Check.due("setRate(0)", x.setRate(0), 4000);
        Check.due("the plan stays", x.count(3), 1);
        Check.due("content with no rate", x.planned(3, 3), 0);
        Check.due("setRate(100000)", x.setRate(100000), 0);
        Check.due("content with the greatest", x.planned(3, 3), 100000);
        Check.due("count(9)", x.count(9), 100000);
    }

    private static void promise16AddZone() {
        RatePlanner x = planned();
        Check.due("addZone(-1, 5, 0)", x.addZone(-1, 5, 0), BAD);
        Check.due("addZone(60, 60, 0)", x.addZone(60, 60, 0), BAD);
        Check.due("addZone(5, 4, 0)", x.addZone(5, 4, 0), BAD);
        Check.due("addZone(5, 60, 0)", x.addZone(5, 60, 0), BAD);
        Check.due("addZone(5, 5, -11)", x.addZone(5, 5, -11), BAD);
        Check.due("addZone(5, 5, 11)", x.addZone(5, 5, 11), BAD);
        Check.due("zones after errors", x.count(4), 0);
        Check.due("addZone(1, 2, 10)", x.addZone(1, 2, 10), 1);
        Check.due("the plan stays", Check.quantizers(x), 17, 22, 22, 20, 20);
        x.constant(20);
        Check.due("one zone", Check.quantizers(x), 17, 32, 32, 20, 20);
        Check.due("addZone(2, 59, -3)", x.addZone(2, 59, -3), 2);
        x.constant(20);
        Check.due("two zones", Check.quantizers(x), 17, 32, 29, 17, 17);
        Check.due("addZone(0, 0, -10)", x.addZone(0, 0, -10), 3);
        x.constant(20);
        Check.due("the sum is limited", Check.quantizers(x), 10, 32, 29, 17, 17);
        Check.due("addZone(0, 0, 10)", x.addZone(0, 0, 10), 4);
        x.constant(20);
        Check.due("the sum alone is limited", Check.quantizers(x), 17, 32, 29, 17, 17);
        Check.due("addZone(59, 59, 10)", x.addZone(59, 59, 10), 5);
        Check.due("addZone(0, 59, 0)", x.addZone(0, 59, 0), 6);
        Check.due("a seventh", x.addZone(0, 0, 0), FULL);
        Check.due("a bad seventh", x.addZone(1, 0, 0), BAD);
        Check.due("count(4)", x.count(4), 6);
    }

    private static void promise17ClearZones() {
        RatePlanner x = planned();
        Check.due("clearZones() of none", x.clearZones(), 0);
        x.addZone(0, 59, 5);
        x.addZone(0, 59, 5);
        x.constant(20);
        Check.due("clearZones()", x.clearZones(), 2);
        Check.due("zones then", x.count(4), 0);
        Check.due("the plan stays", Check.quantizers(x), 27, 32, 32, 30, 30);
        x.constant(20);
        Check.due("no zone", Check.quantizers(x), 17, 22, 22, 20, 20);
        Check.due("addZone then", x.addZone(4, 4, 1), 1);
        x.constant(20);
        Check.due("the new zone alone", Check.quantizers(x), 17, 22, 22, 20, 21);
    }
}
