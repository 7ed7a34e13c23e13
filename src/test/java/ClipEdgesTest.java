/** The boundaries that the promises 1 to 9 and the sentences on texts name. */
public final class ClipEdgesTest {
    private static final int BAD = RatePlanner.BAD, STATE = RatePlanner.STATE, FULL = RatePlanner.FULL;

    public static void main(String[] args) {
        newObject();
        append();
        set();
        drop();
        type();
        clear();
        load();
        frame();
        coded();
        lengthOfTexts();
        runs();
        numbers();
        blanks();
        bytesOutOfPlace();
        numbersOutOfRange();
        tooManyFrames();
        earlyEnds();
        severalFaults();
        Check.end("ClipEdgesTest");
    }

    private static void newObject() {
        Check.says("Creates a planner without frames, without a plan, with all settings as told.");
        RatePlanner other = Check.load("5/9*60");
        other.setInterval(1);
        other.setBridges(0);
        other.setWeight(0, 8);
        other.setRange(51, 51);
        other.setBuffer(100, 0);
        other.setRate(0);
        other.addZone(0, 59, 10);
        other.constant(20);
        other.save(0);
        other.save(1);
        Check.write(other, "5/5");
        RatePlanner x = new RatePlanner();
        long[] due = {0, 0, 0, 0, 0, 12, 2, 60000, 90, 4000, 0};
        long hash = 367;
        for (int what = 0; what < due.length; what++) {
            Check.due("count(" + what + ")", x.count(what), due[what]);
            hash = 31 * hash + due[what];
        }
        Check.due("digest()", x.digest(), hash);
        Check.due("setRange(10, 45)", x.setRange(10, 45), 1045);
        Check.due("setWeight(0, 4)", x.setWeight(0, 4), 4);
        Check.due("setWeight(59, 4)", x.setWeight(59, 4), 4);
        Check.due("clearZones()", x.clearZones(), 0);
        Check.due("clear()", x.clear(), 0);
        Check.due("restore(0)", x.restore(0), STATE);
        Check.due("restore(1)", x.restore(1), STATE);
        Check.due("drop()", x.drop(), STATE);
    }

    private static void append() {
        Check.says("Returns its number; BAD; FULL if there are 60 frames.");
        RatePlanner x = Check.load("1/0*59");
        Check.due("append to 59", x.append(1, 0), 59);
        Check.due("append to 60", x.append(1, 0), FULL);
        Check.due("append to 60 again", x.append(4000, 4000), FULL);
        Check.due("frames", x.count(0), 60);
        x.drop();
        Check.due("append in place of the dropped one", x.append(2, 0), 59);
        Check.due("append to 60", x.append(1, 0), FULL);
        Check.due("the last is the new one", x.frame(59, 0), 2);
        Check.due("append to none", new RatePlanner().append(4000, 4000), 0);
    }

    private static void set() {
        Check.says("Returns 1 if it is a cut then, otherwise 0; BAD.");
        RatePlanner x = Check.frames(60, 100, 0);
        Check.due("set(0, 1, 4000)", x.set(0, 1, 4000), 0);
        Check.due("set(59, 1, 4000)", x.set(59, 1, 4000), 1);
        Check.due("set(59, 2, 4)", x.set(59, 2, 4), 1);
        Check.due("set(59, 2, 3)", x.set(59, 2, 3), 0);
        Check.due("set(1, 1, 0)", x.set(1, 1, 0), 0);
        Check.due("set(1, 4000, 4000)", x.set(1, 4000, 4000), 0);
        Check.due("set(1, 1, 2)", x.set(1, 1, 2), 1);
        Check.due("set(60, 1, 0)", x.set(60, 1, 0), BAD);
        Check.due("frame before", x.frame(58, 0), 100);
        Check.due("scenes", x.count(1), 2);
        Check.due("set of none", new RatePlanner().set(0, 1, 0), BAD);
    }

    private static void drop() {
        Check.says("Returns the number of frames then; STATE if there is none.");
        RatePlanner x = Check.frames(60, 100, 0);
        for (int left = 59; left >= 0; left--) {
            Check.due("drop()", x.drop(), left);
        }
        Check.due("drop() of none", x.drop(), STATE);
        Check.due("drop() of none again", x.drop(), STATE);
        Check.due("scenes", x.count(1), 0);
        Check.due("groups", x.count(2), 0);
        Check.due("drop() of a new object", new RatePlanner().drop(), STATE);
        Check.says("Removes the last frame.");
        RatePlanner y = Check.clip(100, 0, 100, 0, 100, 0, 100, 0, 100, 151);
        y.drop();
        Check.due("scenes without the cut", y.count(1), 1);
        y.drop();
        Check.due("the last one is forward", Check.property(y, 2), 0, 2, 1);
        Check.due("frame(3, 0)", y.frame(3, 0), BAD);
        Check.due("coded(3)", y.coded(3), BAD);
    }

    private static void type() {
        Check.says("Returns the length of the text then; BAD; FULL if it has 100 bytes.");
        RatePlanner x = new RatePlanner();
        for (int length = 1; length <= 100; length++) {
            Check.due("type", x.type(length % 2 == 0 ? 0 : 127), length);
        }
        Check.due("type(0) to 100", x.type(0), FULL);
        Check.due("type(127) to 100", x.type(127), FULL);
        Check.due("length", x.count(10), 100);
        x.clear();
        Check.due("type(0) behind clear()", x.type(0), 1);
        x.clear();
        x.load();
        Check.due("type(127) behind load()", x.type(127), 1);
        Check.due("type(-1)", x.type(-1), BAD);
        Check.due("type(128)", x.type(128), BAD);
        Check.due("length", x.count(10), 1);
    }

    private static void clear() {
        Check.says("Returns the length that it had.");
        RatePlanner x = new RatePlanner();
        Check.due("clear() of nothing", x.clear(), 0);
        x.type(32);
        Check.due("clear() of one", x.clear(), 1);
        Check.write(x, " ".repeat(100));
        Check.due("clear() of 100", x.clear(), 100);
        Check.due("clear() again", x.clear(), 0);
        Check.write(x, "1/0");
        Check.due("nothing is left of the longer one", x.load(), 1);
    }

    private static void load() {
        Check.says("Replaces the clip by that of the text, and empties the text.");
        RatePlanner x = Check.frames(3, 7, 7);
        Check.write(x, "1/0*60");
        Check.due("60 in place of 3", x.load(), 60);
        Check.due("bytes", x.count(10), 0);
        Check.due("texture", x.frame(0, 0), 1);
        Check.write(x, "2/1");
        Check.due("one in place of 60", x.load(), 1);
        Check.due("texture", x.frame(0, 0), 2);
        Check.due("frame(1, 0)", x.frame(1, 0), BAD);
        Check.due("none in place of one", x.load(), 0);
        Check.due("frame(0, 0)", x.frame(0, 0), BAD);
        Check.says("Returns the number of frames; -2000 - p if the text has the fault p (the text stays).");
        RatePlanner y = Check.frames(2, 7, 7);
        y.constant(20);
        Check.write(y, ";");
        Check.due("the fault 0", y.load(), -2000);
        Check.due("and again", y.load(), -2000);
        Check.write(y, "1/0;".repeat(25));
        Check.due("the fault 100", y.load(), -2100);
        Check.due("bytes", y.count(10), 100);
        Check.due("type to the text that stays", y.type('1'), FULL);
        Check.due("the plan stays", Check.quantizers(y), 17, 20);
        Check.due("the clip stays", Check.property(y, 0), 7, 7);
        Check.write(y, "1/");
        Check.due("the fault 2", y.load(), -2002);
        Check.due("type to the text that stays", y.type('4'), 3);
        Check.due("no fault then", y.load(), 1);
        Check.due("its motion", y.frame(0, 1), 4);
    }

    private static void frame() {
        Check.says("0: its texture; 1: its motion; 2: its type; 3: its scene; 4: its place in the coding order; 5: its"
            + " work; 6: the first frame of its group; 7: the number of frames of its group");
        RatePlanner one = Check.clip(1, 0);
        long[] least = {1, 0, 0, 0, 0, 4, 0, 1};
        RatePlanner cuts = Check.frames(60, 2000, 4000);
        long[] greatest = {2000, 4000, 0, 59, 59, 8000, 59, 1};
        RatePlanner group = Check.frames(60, 4000, 4000);
        group.setInterval(60);
        long[] last = {4000, 4000, 1, 0, 58, 12000, 0, 60};
        for (int what = 0; what <= 7; what++) {
            Check.due("of a single frame frame(0, " + what + ")", one.frame(0, what), least[what]);
            Check.due("of 60 scenes frame(59, " + what + ")", cuts.frame(59, what), greatest[what]);
            Check.due("of one group frame(59, " + what + ")", group.frame(59, what), last[what]);
        }
        Check.due("frame(1, 0)", one.frame(1, 0), BAD);
        Check.due("frame(0, 8)", one.frame(0, 8), BAD);
        Check.due("frame(0, -1)", one.frame(0, -1), BAD);
        Check.due("frame(60, 7)", group.frame(60, 7), BAD);
    }

    private static void coded() {
        Check.says("Returns the number of the frame; BAD.");
        RatePlanner x = Check.frames(60, 100, 0);
        Check.due("coded(0)", x.coded(0), 0);
        Check.due("the first of the last group", x.coded(48), 48);
        Check.due("coded(59)", x.coded(59), 58);
        Check.due("coded(60)", x.coded(60), BAD);
        Check.due("coded(-1)", x.coded(-1), BAD);
        x.drop();
        Check.due("coded(59)", x.coded(59), BAD);
        Check.due("coded(0) of one frame", Check.clip(1, 0).coded(0), 0);
        Check.due("coded(1) of one frame", Check.clip(1, 0).coded(1), BAD);
        Check.due("coded(0) of none", new RatePlanner().coded(0), BAD);
    }

    // ---- texts

    /** The answer of load(), and what it leaves: the text with a fault, or else the clip. */
    private static void due(String text, int due) {
        RatePlanner x = Check.clip(9, 9);
        Check.write(x, text);
        Check.due("load() of '" + text + "'", x.load(), due);
        Check.due("bytes behind '" + text + "'", x.count(10), due < 0 ? text.length() : 0);
        Check.due("frames behind '" + text + "'", x.count(0), due < 0 ? 1 : due);
    }

    private static void lengthOfTexts() {
        Check.says("There is a text of at most 100 bytes, which describes a clip");
        due("1/0;".repeat(24) + "1/00", 25);
        due("1/0;".repeat(24) + "1/0;", -2100);
        due("1/0*60" + " ".repeat(94), 60);
        due(" ".repeat(94) + "1/0*60", 60);
        due(" ".repeat(97) + "1/0", 1);
        due(" ".repeat(98) + "1/", -2100);
        due(" ".repeat(99) + "1", -2100);
        due(" ".repeat(99) + "0", -2099);
        due(" ".repeat(99) + ";", -2099);
    }

    private static void runs() {
        Check.says("A run stands for so many frames (the third number, or one) with the texture and motion of the first and"
            + " second number.");
        due("1/0", 1);
        due("1/0*1", 1);
        due("1/0*2", 2);
        due("1/0*59", 59);
        due("1/0*60", 60);
        RatePlanner x = Check.load("1/0*2;4000/4000;7/8*1");
        Check.due("textures", Check.property(x, 0), 1, 1, 4000, 7);
        Check.due("motions", Check.property(x, 1), 0, 0, 4000, 8);
        Check.says("Braces mean repetition, zero times or more, and brackets at most once.");
        due("1/0;1/0", 2);
        due("1/0*2;1/0*2;1/0", 5);
        due("1/0*1*1", -2005);
        due("1/0/0", -2003);
        due("1/0;;1/0", -2004);
        due(";1/0", -2000);
    }

    private static void numbers() {
        Check.says("A number is the longest possible sequence of at most 4 digits.");
        due("0001/0000*0001", 1);
        due("1/4000", 1);
        due("1/0*0060", 60);
        due("10000/0", -2004);
        due("00001/0", -2000);
        due("1/00000", -2006);
        due("1/10000", -2006);
        due("1/0*00010", -2008);
        due("1/0*00000", -2004);
        due("1/0*00600", -2008);
        due("1000 1/0", -2005);
        due("1 0/0", -2002);
        due("1/0*6 0", -2006);
        RatePlanner x = Check.load("0400/0010*0002;4/1*003");
        Check.due("textures", Check.property(x, 0), 400, 400, 4, 4, 4);
        Check.due("motions", Check.property(x, 1), 10, 10, 1, 1, 1);
    }

    private static void blanks() {
        Check.says("Blanks (byte 32) can stand before and after each number and sign");
        due(" 1 / 0 * 2 ; 1 / 0 * 3 ", 5);
        due("  1  /  0  *  2  ;  1  /  0  ", 3);
        due("1/0 ", 1);
        due(" 1/0", 1);
        for (int other : new int[] {0, 9, 10, 13, 31, 33, 127}) {
            due((char) other + "1/0", -2000);
            due("1" + (char) other + "/0", -2001);
            due("1/" + (char) other + "0", -2002);
            due("1/0" + (char) other, -2003);
            due(" " + (char) other, -2001);
        }
        Check.says("a text of blanks alone is the empty clip, as the empty text is.");
        due("", 0);
        due(" ", 0);
        due(" ".repeat(100), 0);
    }

    private static void bytesOutOfPlace() {
        Check.says("The fault of a text is the index, from 0, of the first byte that cannot stand at its place");
        // the bytes on either side of the digits, and the other signs
        for (char other : new char[] {'/', ':', '*', ';', '-', '+', 'x'}) {
            due(other + "1/0", -2000);
            due("1/" + other, -2002);
            due("1/0*" + other, -2004);
            due("1/0;" + other, -2004);
            due("1/ " + other, -2003);
        }
        for (char other : new char[] {'.', ':', '*', ';', 'x'}) {
            due("1" + other, -2001);
            due("1000" + other, -2004);
        }
        for (char other : new char[] {'/', ':', ')', '+', '.', '<'}) {
            due("1/0" + other, -2003);
            due("1/0 " + other, -2004);
            due("1/0*1" + other, -2005);
        }
    }

    private static void numbersOutOfRange() {
        Check.says("for a number that is out of range (a texture, a motion, 0 frames, or so many frames that there would be"
            + " more than 60), and for a run that begins when there are 60 frames already, it is the index of its first"
            + " byte");
        due("0/0", -2000);
        due("1/0", 1);
        due("4000/0", 1);
        due("4001/0", -2000);
        due("9999/0", -2000);
        due(" 0000/0", -2001);
        due("1/4000", 1);
        due("1/4001", -2002);
        due("1/  9999", -2004);
        due("1/0*0", -2004);
        due("1/0*  0000", -2006);
        due("1/0*61", -2004);
        due("1/0* 61", -2005);
        due("1/0*9999", -2004);
        due("1/0;0/0", -2004);
        due("1/0;1/4001", -2006);
        due("1/0;1/0*0", -2008);
    }

    private static void tooManyFrames() {
        due("1/0*30;1/0*30", 60);
        due("1/0*30;1/0*31", -2011);
        due("1/0;1/0*59", 60);
        due("1/0;1/0*60", -2008);
        due("1/0*59;1/0", 60);
        due("1/0*59;1/0*1", 60);
        due("1/0*59;1/0*2", -2011);
        due("1/0*59;1/0;1/0", -2011);
        due("1/0*60;1/0", -2007);
        due("1/0*60;1/0*0", -2007);
        due("1/0*60;0/0", -2007);
        due("1/0*60 ;  1/0", -2010);
        due("1/0*60 ", 60);
    }

    private static void earlyEnds() {
        Check.says("it is the length of the text if the text ends too early.");
        due("1", -2001);
        due("1000", -2004);
        due("1 ", -2002);
        due("1/", -2002);
        due("1/ ", -2003);
        due("1/0*", -2004);
        due("1/0* ", -2005);
        due("1/0;", -2004);
        due("1/0; ", -2005);
        due("1/0*60;", -2007);
        due("1/0*60; ", -2008);
        due("1/0;1", -2005);
        due("1/0;1/0*", -2008);
    }

    private static void severalFaults() {
        Check.says("If a text has several faults, the one with the least index counts.");
        due("0x", -2000);
        due("0", -2000);
        due("4001 ", -2000);
        due("1/4001x", -2002);
        due("1/4001*0", -2002);
        due("1/0*61x", -2004);
        due("1/0*0;", -2004);
        due("1/x;0/0", -2002);
        due("1x0/0", -2001);
        due("0/4001*0", -2000);
        due("1/0*60;x", -2007);
        due("1/0*60x;1/0", -2006);
        due("40010/0", -2000);
        due("40000/0", -2004);
    }
}
