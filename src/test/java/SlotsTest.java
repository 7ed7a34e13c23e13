/** Promises 35 to 38: slots, counts and the hash. */
public final class SlotsTest {
    private static final int BAD = RatePlanner.BAD, STATE = RatePlanner.STATE;

    public static void main(String[] args) {
        promise35Save();
        promise36Restore();
        promise36RestoreSettings();
        promise37Count();
        promise38Digest();
        Check.end("SlotsTest");
    }

    private static void promise35Save() {
        RatePlanner x = Check.clip(400, 100, 300, 50);
        Check.due("save(-1)", x.save(-1), BAD);
        Check.due("save(2)", x.save(2), BAD);
        Check.due("restore(0) then", x.restore(0), STATE);
        x.constant(20);
        Check.due("save(0)", x.save(0), 2);
        Check.due("the plan stays", x.count(3), 1);
        x.append(1, 1);
        Check.due("save(1)", x.save(1), 3);
        Check.due("restore(0)", x.restore(0), 2);
        Check.due("restore(1)", x.restore(1), 3);
        Check.due("save(0) in place of what it holds", x.save(0), 3);
        Check.due("restore(0)", x.restore(0), 3);
        Check.due("save(0) of no frames", new RatePlanner().save(0), 0);
    }

    private static void promise36Restore() {
        RatePlanner x = Check.clip(400, 100, 300, 50);
        x.constant(20);
        Check.due("restore(-1)", x.restore(-1), BAD);
        Check.due("restore(2)", x.restore(2), BAD);
        Check.due("restore(0)", x.restore(0), STATE);
        Check.due("restore(1)", x.restore(1), STATE);
        x.save(0);
        x.adjust(0, 44);
        x.set(1, 20, 40);
        x.append(5, 5);
        Check.due("restore(1) still", x.restore(1), STATE);
        Check.due("frames still", x.count(0), 3);
        Check.due("restore(0)", x.restore(0), 2);
        Check.due("the plan is back", Check.quantizers(x), 17, 20);
        Check.due("the textures are back", Check.property(x, 0), 400, 300);
        Check.due("the motions are back", Check.property(x, 1), 100, 50);
        Check.due("the types are back", Check.property(x, 2), 0, 1);
        Check.due("the scenes are back", x.count(1), 1);
        Check.write(x, "1/0*3");
        x.load();
        x.save(1);
        Check.write(x, "55");
        Check.due("restore(0) again", x.restore(0), 2);
        Check.due("the plan is back again", Check.quantizers(x), 17, 20);
        Check.due("the text stays", x.count(10), 2);
        Check.due("restore(1)", x.restore(1), 3);
        Check.due("no plan was saved", x.count(3), 0);
        Check.due("the order is back", Check.order(x), 0, 2, 1);
    }

    private static void promise36RestoreSettings() {
        RatePlanner x = new RatePlanner();
        x.setInterval(7);
        x.setBridges(1);
        x.setWeight(59, 8);
        x.setRange(20, 21);
        x.setBuffer(500, 40);
        x.setRate(77);
        x.addZone(1, 2, 3);
        Check.due("save(1)", x.save(1), 0);
        long saved = x.digest();
        x.setInterval(8);
        x.setBridges(3);
        x.setWeight(59, 1);
        x.setRange(30, 31);
        x.setBuffer(600, 50);
        x.setRate(88);
        x.clearZones();
        x.addZone(0, 59, 10);
        x.addZone(0, 59, 10);
        x.append(1, 1);
        Check.due("restore(1)", x.restore(1), 0);
        Check.due("digest()", x.digest(), saved);
        Check.due("the zones", x.count(4), 1);
        Check.due("the interval", x.setInterval(12), 7);
        Check.due("the bridges", x.setBridges(2), 1);
        Check.due("a weight", x.setWeight(59, 4), 8);
        Check.due("the range", x.setRange(0, 51), 2021);
        Check.due("the start", x.count(8), 40);
        Check.due("the size", x.setBuffer(60000, 90), 500);
        Check.due("the rate", x.setRate(4000), 77);
        for (int frame = 0; frame < 4; frame++) {
            x.append(400, 100);
        }
        x.setBridges(0);
        x.constant(20);
        Check.due("the zone", Check.quantizers(x), 17, 23, 23, 20);
    }

    private static void promise37Count() {
        RatePlanner x = Check.clip(400, 100, 300, 50, 100, 200, 100, 0);
        x.setInterval(2);
        x.setBridges(3);
        x.setBuffer(500, 40);
        x.setRate(77);
        x.addZone(1, 2, 3);
        x.type(1);
        x.type(2);
        x.type(3);
        int[] due = {4, 2, 2, 0, 1, 2, 3, 500, 40, 77, 3};
        for (int what = 0; what < due.length; what++) {
            Check.due("count(" + what + ")", x.count(what), due[what]);
        }
        x.setInterval(1);
        Check.due("groups", x.count(2), 4);
        x.constant(20);
        Check.due("a plan", x.count(3), 1);
        Check.due("count(-1)", x.count(-1), BAD);
        Check.due("count(11)", x.count(11), BAD);
        Check.due("count(MIN)", x.count(Integer.MIN_VALUE), BAD);
    }

    private static void promise38Digest() {
        RatePlanner x = new RatePlanner();
        Check.due("digest() of a new object", x.digest(), hash(x, ""));
        Check.write(x, "400/10*5;30/60*4 ");
        Check.due("digest() with a text", x.digest(), hash(x, "400/10*5;30/60*4 "));
        x.load();
        Check.due("digest() without a plan", x.digest(), hash(x, ""));
        promise38DigestOfAPlan(Check.load("400/10*5;30/60*4"));
    }

    private static void promise38DigestOfAPlan(RatePlanner x) {
        x.setBuffer(3000, 70);
        x.setRate(900);
        x.setWeight(1, 7);
        x.constant(20);
        Check.due("digest() with a plan", x.digest(), hash(x, ""));
        Check.write(x, "xyz");
        long due = hash(x, "xyz");
        Check.due("digest() with a plan and a text", x.digest(), due);
        Check.due("digest() again", x.digest(), due);
    }

    private static long hash(RatePlanner x, String text) {
        boolean planned = x.count(3) == 1;
        long hash = 367;
        for (int what = 0; what <= 10; what++) {
            hash = 31 * hash + x.count(what);
        }
        for (int frame = 0; frame < x.count(0); frame++) {
            for (int what = 0; what <= 7; what++) {
                hash = 31 * hash + x.frame(frame, what);
            }
            for (int what = 0; planned && what <= 6; what++) {
                hash = 31 * hash + x.planned(frame, what);
            }
        }
        for (int scene = 0; scene < x.count(1); scene++) {
            for (int what = 0; what <= 2; what++) {
                hash = 31 * hash + x.scene(scene, what);
            }
        }
        for (int what = 0; planned && what <= 6; what++) {
            hash = 31 * hash + x.total(what);
        }
        for (int index = 0; index < text.length(); index++) {
            hash = 31 * hash + text.charAt(index);
        }
        return hash;
    }
}
