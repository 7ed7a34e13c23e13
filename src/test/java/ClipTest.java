/** Promises 1 to 9: a new object, and the clip. */
public final class ClipTest {
    private static final int BAD = RatePlanner.BAD, STATE = RatePlanner.STATE, FULL = RatePlanner.FULL;

    public static void main(String[] args) {
        promise1NewObject();
        promise2Append();
        promise3Set();
        promise4Drop();
        promise5Type();
        promise6Clear();
        promise7LoadClips();
        promise7LoadFaults();
        promise7LoadChanges();
        promise8Frame();
        promise8Groups();
        promise9Coded();
        Check.end("ClipTest");
    }

    private static void promise1NewObject() {
        RatePlanner x = new RatePlanner();
        int[] counts = {0, 0, 0, 0, 0, 12, 2, 60000, 90, 4000, 0};
        for (int what = 0; what < counts.length; what++) {
            Check.due("new count(" + what + ")", x.count(what), counts[what]);
        }
        Check.due("new setRange(10, 45)", x.setRange(10, 45), 1045);
        for (int scene = 0; scene < 60; scene++) {
            Check.due("new setWeight(" + scene + ", 4)", x.setWeight(scene, 4), 4);
        }
        Check.due("new restore(0)", x.restore(0), STATE);
        Check.due("new restore(1)", x.restore(1), STATE);
        Check.due("new digest()", x.digest(), -9121833050595911295L);
    }

    private static void promise2Append() {
        RatePlanner x = Check.clip(1, 0, 4000, 4000);
        Check.due("texture of 0", x.frame(0, 0), 1);
        Check.due("motion of 0", x.frame(0, 1), 0);
        Check.due("texture of 1", x.frame(1, 0), 4000);
        Check.due("motion of 1", x.frame(1, 1), 4000);
        x.constant(20);
        Check.due("append(0, 0)", x.append(0, 0), BAD);
        Check.due("append(4001, 0)", x.append(4001, 0), BAD);
        Check.due("append(1, -1)", x.append(1, -1), BAD);
        Check.due("append(1, 4001)", x.append(1, 4001), BAD);
        Check.due("frames after errors", x.count(0), 2);
        Check.due("plan after errors", x.count(3), 1);
        Check.due("append(7, 8)", x.append(7, 8), 2);
        Check.due("plan after append", x.count(3), 0);
        RatePlanner full = Check.frames(60, 5, 5);
        full.constant(20);
        Check.due("append to 60", full.append(5, 5), FULL);
        Check.due("bad append to 60", full.append(0, 5), BAD);
        Check.due("frames when full", full.count(0), 60);
        Check.due("plan after FULL", full.count(3), 1);
    }

    private static void promise3Set() {
        RatePlanner x = Check.clip(100, 0, 100, 0, 100, 0);
        x.constant(20);
        Check.due("set(-1, 1, 1)", x.set(-1, 1, 1), BAD);
        Check.due("set(3, 1, 1)", x.set(3, 1, 1), BAD);
        Check.due("set(1, 0, 1)", x.set(1, 0, 1), BAD);
        Check.due("set(1, 4001, 1)", x.set(1, 4001, 1), BAD);
        Check.due("set(1, 1, -1)", x.set(1, 1, -1), BAD);
        Check.due("set(1, 1, 4001)", x.set(1, 1, 4001), BAD);
        Check.due("plan after errors", x.count(3), 1);
        Check.due("texture after errors", x.frame(1, 0), 100);
        Check.due("set(1, 100, 150)", x.set(1, 100, 150), 0);
        Check.due("plan after set", x.count(3), 0);
        Check.due("scenes", x.count(1), 1);
        Check.due("set(1, 100, 151)", x.set(1, 100, 151), 1);
        Check.due("scenes with a cut", x.count(1), 2);
        Check.due("texture then", x.frame(1, 0), 100);
        Check.due("motion then", x.frame(1, 1), 151);
        Check.due("set(0, 1, 4000)", x.set(0, 1, 4000), 0);
        Check.due("scenes: frame 0 is no cut", x.count(1), 2);
        Check.due("set(2, 4000, 4000)", x.set(2, 4000, 4000), 0);
        Check.due("set(2, 1, 4000)", x.set(2, 1, 4000), 1);
        Check.due("set on an empty clip", new RatePlanner().set(0, 1, 1), BAD);
    }

    private static void promise4Drop() {
        RatePlanner x = Check.clip(100, 0, 100, 200, 100, 0);
        x.constant(20);
        Check.due("drop()", x.drop(), 2);
        Check.due("plan after drop", x.count(3), 0);
        Check.due("scenes", x.count(1), 2);
        Check.due("drop()", x.drop(), 1);
        Check.due("scenes", x.count(1), 1);
        Check.due("groups", x.count(2), 1);
        Check.due("drop()", x.drop(), 0);
        Check.due("scenes", x.count(1), 0);
        Check.due("drop() of none", x.drop(), STATE);
        Check.due("append then", x.append(1, 1), 0);
    }

    private static void promise5Type() {
        RatePlanner x = new RatePlanner();
        Check.due("type(-1)", x.type(-1), BAD);
        Check.due("type(128)", x.type(128), BAD);
        Check.due("type(0)", x.type(0), 1);
        Check.due("type(127)", x.type(127), 2);
        for (int length = 3; length <= 100; length++) {
            Check.due("type", x.type(32), length);
        }
        Check.due("type(32) to 100", x.type(32), FULL);
        Check.due("type(128) to 100", x.type(128), BAD);
        Check.due("count(10)", x.count(10), 100);
    }

    private static void promise6Clear() {
        RatePlanner x = new RatePlanner();
        Check.due("clear() of nothing", x.clear(), 0);
        Check.write(x, "5/5");
        Check.due("clear()", x.clear(), 3);
        Check.due("count(10)", x.count(10), 0);
        Check.due("clear() again", x.clear(), 0);
        Check.due("load() after clear()", x.load(), 0);
    }

    private static void due(String text, int due) {
        RatePlanner x = new RatePlanner();
        Check.write(x, text);
        Check.due("load() of '" + text + "'", x.load(), due);
        Check.due("text behind '" + text + "'", x.count(10), due < 0 ? text.length() : 0);
        Check.due("frames of '" + text + "'", x.count(0), Math.max(0, due));
    }

    private static void promise7LoadClips() {
        due("", 0);
        due("   ", 0);
        due(" ".repeat(100), 0);
        due("5/5", 1);
        due("1/0", 1);
        due("4000/4000*60", 60);
        due(" 5 / 5 * 2 ; 7/0 ", 3);
        due("0001/0000*0001", 1);
        due("1/0*59;1/0", 60);
        due("1/0;".repeat(24) + "1/0*", -2100);
        due("1/0;".repeat(24) + "1/0 ", 25);
        RatePlanner x = new RatePlanner();
        Check.write(x, "400/10*2; 3 /40 *1;0012/0");
        Check.due("load()", x.load(), 4);
        Check.due("textures", Check.property(x, 0), 400, 400, 3, 12);
        Check.due("motions", Check.property(x, 1), 10, 10, 40, 0);
    }

    private static void promise7LoadFaults() {
        due("x", -2000);
        due("/", -2000);
        due("  ;", -2002);
        due("\t", -2000);
        due("5", -2001);
        due("5 ", -2002);
        due("5/", -2002);
        due("5/5*", -2004);
        due("5/5;", -2004);
        due("5/5; ", -2005);
        due("5 5", -2002);
        due("5/5 5", -2004);
        due("5/5/5", -2003);
        due("5/5*2*2", -2005);
        due("5/5;;5/5", -2004);
        due("5/5,5/5", -2003);
        due("5*5", -2001);
        due("-5/5", -2000);
        due("5/-5", -2002);
        due("0/1", -2000);
        due("4001/1", -2000);
        due("1/4001", -2002);
        due("1/ 4001", -2003);
        due("10000/1", -2004);
        due("90000/1", -2000);
        due("00005/1", -2000);
        due("1/40000", -2006);
        due("1/00000", -2006);
        due("9999", -2000);
        due("0x", -2000);
        due("1/0*0", -2004);
        due("1/0*61", -2004);
        due("1/0* 61", -2005);
        due("1/0*30;1/0*31", -2011);
        due("1/0*60;1/0", -2007);
        due("1/0*60; 1/0", -2008);
        due("1/0*60 ; 1/0", -2009);
        due("1/0*60;", -2007);
        due("1/0*60;  ", -2009);
        due("1/0*60;x", -2007);
        due("1/0*60x", -2006);
        due("0/x", -2000);
        due("1/0" + " ".repeat(96) + ";", -2100);
    }

    private static void promise7LoadChanges() {
        RatePlanner x = Check.clip(7, 8);
        x.setInterval(3);
        x.constant(20);
        Check.write(x, "5/5;");
        Check.due("load() of a fault", x.load(), -2004);
        Check.due("clip stays", x.frame(0, 0), 7);
        Check.due("plan stays", x.count(3), 1);
        Check.due("text stays", x.count(10), 4);
        x.type('9');
        x.type('/');
        x.type('9');
        Check.due("load() of the longer text", x.load(), 2);
        Check.due("clip replaced", Check.property(x, 0), 5, 9);
        Check.due("plan discarded", x.count(3), 0);
        Check.due("text emptied", x.count(10), 0);
        Check.due("interval stays", x.count(5), 3);
        x.constant(20);
        Check.due("load() of the empty text", x.load(), 0);
        Check.due("no frames", x.count(0), 0);
        Check.due("no plan", x.count(3), 0);
    }

    private static void promise8Frame() {
        RatePlanner x = Check.clip(101, 30, 101, 30, 101, 30, 101, 30, 20, 31, 7, 1);
        Check.due("textures", Check.property(x, 0), 101, 101, 101, 101, 20, 7);
        Check.due("motions", Check.property(x, 1), 30, 30, 30, 30, 31, 1);
        Check.due("types", Check.property(x, 2), 0, 2, 2, 1, 0, 1);
        Check.due("scenes", Check.property(x, 3), 0, 0, 0, 0, 1, 1);
        Check.due("places", Check.property(x, 4), 0, 2, 3, 1, 4, 5);
        Check.due("works", Check.property(x, 5), 404, 80, 80, 161, 80, 9);
        Check.due("first of groups", Check.property(x, 6), 0, 0, 0, 0, 4, 4);
        Check.due("length of groups", Check.property(x, 7), 4, 4, 4, 4, 2, 2);
        Check.due("frame(-1, 0)", x.frame(-1, 0), BAD);
        Check.due("frame(6, 0)", x.frame(6, 0), BAD);
        Check.due("frame(0, -1)", x.frame(0, -1), BAD);
        Check.due("frame(0, 8)", x.frame(0, 8), BAD);
        Check.due("frame of an empty clip", new RatePlanner().frame(0, 0), BAD);
    }

    private static void promise8Groups() {
        RatePlanner x = Check.frames(10, 100, 0);
        x.setInterval(4);
        x.setBridges(3);
        Check.due("types", Check.property(x, 2), 0, 2, 2, 1, 0, 2, 2, 1, 0, 1);
        Check.due("scenes", Check.property(x, 3), 0, 0, 0, 0, 0, 0, 0, 0, 0, 0);
        Check.due("places", Check.property(x, 4), 0, 2, 3, 1, 4, 6, 7, 5, 8, 9);
        Check.due("works", Check.property(x, 5), 400, 50, 50, 100, 400, 50, 50, 100, 400, 100);
        Check.due("first of groups", Check.property(x, 6), 0, 0, 0, 0, 4, 4, 4, 4, 8, 8);
        Check.due("length of groups", Check.property(x, 7), 4, 4, 4, 4, 4, 4, 4, 4, 2, 2);
        x.set(6, 100, 151);
        Check.due("types behind a cut", Check.property(x, 2), 0, 2, 2, 1, 0, 1, 0, 2, 2, 1);
        Check.due("first of groups", Check.property(x, 6), 0, 0, 0, 0, 4, 4, 6, 6, 6, 6);
        Check.due("scenes", Check.property(x, 3), 0, 0, 0, 0, 0, 0, 1, 1, 1, 1);
        x.setInterval(1);
        Check.due("all intra", Check.property(x, 2), 0, 0, 0, 0, 0, 0, 0, 0, 0, 0);
        x.setInterval(60);
        Check.due("first of groups", Check.property(x, 6), 0, 0, 0, 0, 0, 0, 6, 6, 6, 6);
    }

    private static void promise9Coded() {
        RatePlanner x = Check.frames(10, 100, 0);
        x.setBridges(0);
        Check.due("order without bridges", Check.order(x), 0, 1, 2, 3, 4, 5, 6, 7, 8, 9);
        x.setBridges(1);
        Check.due("order with 1", Check.order(x), 0, 2, 1, 4, 3, 6, 5, 8, 7, 9);
        x.setBridges(2);
        Check.due("order with 2", Check.order(x), 0, 3, 1, 2, 6, 4, 5, 9, 7, 8);
        x.setBridges(3);
        Check.due("order with 3", Check.order(x), 0, 4, 1, 2, 3, 8, 5, 6, 7, 9);
        x.setInterval(4);
        Check.due("order of groups", Check.order(x), 0, 3, 1, 2, 4, 7, 5, 6, 8, 9);
        Check.due("coded(-1)", x.coded(-1), BAD);
        Check.due("coded(10)", x.coded(10), BAD);
        Check.due("coded of an empty clip", new RatePlanner().coded(0), BAD);
    }
}
