import java.lang.management.ManagementFactory;
import java.lang.reflect.Constructor;
import java.lang.reflect.Field;
import java.lang.reflect.Method;
import java.lang.reflect.Modifier;
import java.util.Arrays;
import java.util.HashSet;
import java.util.Set;
import java.util.TreeSet;

/** The document's public face, and the objects that calls make. */
public final class FaceTest {
    private static final String[] FACE = {
        "int append(int, int)", "int set(int, int, int)", "int drop()", "int type(int)", "int clear()", "int load()",
        "int frame(int, int)", "int coded(int)", "int setInterval(int)", "int setBridges(int)",
        "int setWeight(int, int)", "int setRange(int, int)", "int setBuffer(int, int)", "int setRate(int)",
        "int addZone(int, int, int)", "int clearZones()", "int bitsAt(int, int)", "int lossAt(int, int)",
        "int constant(int)", "int control(int, int)", "int distribute(int)", "int smooth(int)", "int repair()",
        "int relax(int)", "int adjust(int, int)", "int planned(int, int)", "long total(int)", "int scene(int, int)",
        "int leastSize()", "int leastStart()", "int leastRate()", "int bestConstant()", "int demand(int, int)",
        "int save(int)", "int restore(int)", "int count(int)", "long digest()"};

    public static void main(String[] args) {
        constants();
        face();
        objects();
        Check.end("FaceTest");
    }

    private static void constants() {
        Check.due("NONE", RatePlanner.NONE, -1);
        Check.due("BAD", RatePlanner.BAD, -2);
        Check.due("STATE", RatePlanner.STATE, -3);
        Check.due("FULL", RatePlanner.FULL, -4);
    }

    private static void face() {
        Set<String> shown = new TreeSet<>();
        Set<String> hidden = new HashSet<>();
        for (Method method : RatePlanner.class.getDeclaredMethods()) {
            String arguments = Arrays.toString(Arrays.stream(method.getParameterTypes()).map(Class::getName).toArray());
            if (Modifier.isPrivate(method.getModifiers())) {
                hidden.add(method.getName());
            } else {
                shown.add(method.getReturnType() + " " + method.getName() + "("
                    + arguments.substring(1, arguments.length() - 1) + ")");
                Check.holds(method + " is public and no static", Modifier.isPublic(method.getModifiers())
                    && !Modifier.isStatic(method.getModifiers()));
            }
        }
        Check.holds("the face is the document's: " + shown, shown.equals(new TreeSet<>(Arrays.asList(FACE))));
        for (String method : FACE) {
            String name = method.substring(method.indexOf(' ') + 1, method.indexOf('('));
            Check.holds("no private method is called " + name, !hidden.contains(name));
        }
        Set<String> fields = new TreeSet<>();
        for (Field field : RatePlanner.class.getDeclaredFields()) {
            if (!Modifier.isPrivate(field.getModifiers())) {
                fields.add(field.getName());
            }
            Check.holds(field + " is final if static", !Modifier.isStatic(field.getModifiers())
                || Modifier.isFinal(field.getModifiers()));
        }
        Check.holds("the constants alone are seen: " + fields,
            fields.equals(new TreeSet<>(Arrays.asList("NONE", "BAD", "STATE", "FULL"))));
        Constructor<?>[] constructors = RatePlanner.class.getDeclaredConstructors();
        Check.holds("one public constructor", constructors.length == 1 && constructors[0].getParameterCount() == 0
            && Modifier.isPublic(constructors[0].getModifiers()));
        Check.holds("public and final", Modifier.isPublic(RatePlanner.class.getModifiers())
            && Modifier.isFinal(RatePlanner.class.getModifiers()));
        for (Class<?> inside : RatePlanner.class.getDeclaredClasses()) {
            Check.holds(inside + " is private and static", Modifier.isPrivate(inside.getModifiers())
                && Modifier.isStatic(inside.getModifiers()));
        }
    }

    /** All calls of a run live in one room: what a call makes is kept small, which here means nothing at all. */
    private static void objects() {
        RatePlanner planner = new RatePlanner();
        work(planner);
        com.sun.management.ThreadMXBean threads =
            (com.sun.management.ThreadMXBean) ManagementFactory.getThreadMXBean();
        long thread = Thread.currentThread().getId();
        long before = threads.getThreadAllocatedBytes(thread);
        long idle = threads.getThreadAllocatedBytes(thread) - before;
        before = threads.getThreadAllocatedBytes(thread);
        work(planner);
        long made = threads.getThreadAllocatedBytes(thread) - before - idle;
        Check.holds("calls make no objects, but " + made + " bytes", made < 1000);
    }

    private static void work(RatePlanner planner) {
        planner.clear();
        for (char letter : TEXT) {
            planner.type(letter);
        }
        planner.load();
        planner.append(1, 1);
        planner.set(0, 2, 2);
        planner.drop();
        planner.frame(0, 5);
        planner.coded(0);
        planner.setInterval(7);
        planner.setBridges(3);
        planner.setWeight(0, 8);
        planner.setRange(0, 51);
        planner.setBuffer(90000, 90);
        planner.setRate(1000);
        planner.addZone(0, 59, 1);
        planner.clearZones();
        planner.control(20, 100);
        planner.distribute(100000);
        planner.constant(10);
        planner.repair();
        planner.relax(10000000);
        planner.smooth(1);
        planner.adjust(0, 51);
        planner.planned(0, 6);
        planner.total(6);
        planner.scene(0, 4);
        planner.leastSize();
        planner.leastStart();
        planner.leastRate();
        planner.bestConstant();
        planner.demand(0, 1);
        planner.save(0);
        planner.save(1);
        planner.restore(0);
        planner.digest();
    }

    private static final char[] TEXT = "400/10*20;30/60*20;5/9*20".toCharArray();
}
