import java.lang.reflect.Method;
import java.util.Arrays;
import java.util.Comparator;
import java.util.HashMap;
import java.util.Map;
import java.util.Random;

/** Runs of calls, drawn with a fixed seed, on RatePlanner and PlainPlanner: all answers must be the same. */
public final class AgainstPlainTest {
    /** An object is promised to answer so many calls, and the last of them as well as the first. */
    private static final int MOST_CALLS = 512;
    private static final int RUNS = 500;
    private static final int[] EXTREMES = {Integer.MIN_VALUE, Integer.MIN_VALUE + 1, -1, 0, 1, 1 << 30, Integer.MAX_VALUE};

    /** The ranges of the arguments, least and greatest in turn. */
    private static final Map<String, int[]> RANGES = new HashMap<>();
    /** How often a call is drawn, where not once. */
    private static final Map<String, Integer> WEIGHTS = new HashMap<>();

    static {
        range("append", 1, 4000, 0, 4000);
        range("set", 0, 59, 1, 4000, 0, 4000);
        range("drop");
        range("type", 0, 127);
        range("clear");
        range("load");
        range("frame", 0, 59, 0, 7);
        range("coded", 0, 59);
        range("setInterval", 1, 60);
        range("setBridges", 0, 3);
        range("setWeight", 0, 59, 1, 8);
        range("setRange", 0, 51, 0, 51);
        range("setBuffer", 100, 1000000, 0, 100);
        range("setRate", 0, 100000);
        range("addZone", 0, 59, 0, 59, -10, 10);
        range("clearZones");
        range("bitsAt", 0, 59, 0, 51);
        range("lossAt", 0, 59, 0, 51);
        range("constant", 0, 51);
        range("control", 0, 51, 0, 200);
        range("distribute", 0, 10000000);
        range("smooth", 0, 51);
        range("repair");
        range("relax", 0, 10000000);
        range("adjust", 0, 59, 0, 51);
        range("planned", 0, 59, 0, 6);
        range("total", 0, 6);
        range("scene", 0, 59, 0, 5);
        range("leastSize");
        range("leastStart");
        range("leastRate");
        range("bestConstant");
        range("demand", 0, 59, 0, 59);
        range("save", 0, 1);
        range("restore", 0, 1);
        range("count", 0, 10);
        range("digest");
        WEIGHTS.put("append", 6);
        WEIGHTS.put("planned", 4);
        WEIGHTS.put("total", 3);
        WEIGHTS.put("constant", 3);
        WEIGHTS.put("distribute", 3);
        WEIGHTS.put("control", 3);
        WEIGHTS.put("adjust", 3);
        WEIGHTS.put("repair", 3);
        WEIGHTS.put("relax", 3);
        WEIGHTS.put("setInterval", 0);
        WEIGHTS.put("setBridges", 0);
        WEIGHTS.put("restore", 0);
        WEIGHTS.put("drop", 0);
        WEIGHTS.put("load", 0);
        WEIGHTS.put("type", 0);
        WEIGHTS.put("clear", 0);
    }

    private final Random random;
    private final RatePlanner planner = new RatePlanner();
    private final PlainPlanner plain = new PlainPlanner();
    private final StringBuilder told = new StringBuilder();
    private int frames = 0;
    private int calls = 0;
    private int scale;
    private static final Map<String, int[]> ANSWERS = new HashMap<>();

    private AgainstPlainTest(long seed) {
        random = new Random(seed);
        scale = 1 << random.nextInt(12);
    }

    private static void range(String name, int... bounds) {
        RANGES.put(name, bounds);
    }

    public static void main(String[] args) {
        for (int seed = 1; seed <= RUNS; seed++) {
            new AgainstPlainTest(seed).run(seed);
        }
        for (String name : new String[] {"repair", "relax", "smooth", "leastSize", "leastStart", "leastRate",
            "bestConstant", "load", "distribute", "control"}) {
            int[] kinds = ANSWERS.getOrDefault(name, new int[3]);
            Check.holds(name + " was drawn with and without success: " + Arrays.toString(kinds),
                kinds[0] > 10 && kinds[2] > 10);
        }
        Check.end("AgainstPlainTest");
    }

    private void run(int seed) {
        Method[] methods = Arrays.stream(RatePlanner.class.getDeclaredMethods())
            .filter(method -> RANGES.containsKey(method.getName()))
            .sorted(Comparator.comparing(Method::getName)).toArray(Method[]::new);
        boolean same = methods.length == RANGES.size();
        for (int turn = 0; calls < MOST_CALLS && same; turn++) {
            same = turn % 40 == 0 || random.nextInt(60) == 0 ? draw(seed, "clip") : draw(seed, drawName(methods));
            if (same && turn % 10 == 9) {
                same = call(seed, "digest");
            }
        }
        Check.holds("run " + seed + " is the same" + (same ? "" : ":\n" + told), same);
    }

    private String drawName(Method[] methods) {
        if (random.nextInt(100) == 0) {
            return new String[] {"setInterval", "setBridges", "restore", "drop", "type", "clear", "load"}[random.nextInt(7)];
        }
        while (true) {
            String name = methods[random.nextInt(methods.length)].getName();
            if (random.nextInt(6) < WEIGHTS.getOrDefault(name, 1)) {
                return name;
            }
        }
    }

    private boolean draw(int seed, String name) {
        if (name.equals("clip")) {
            return drawClip(seed);
        }
        int[] bounds = RANGES.get(name);
        int[] arguments = new int[bounds.length / 2];
        for (int i = 0; i < arguments.length; i++) {
            arguments[i] = drawArgument(bounds[2 * i], bounds[2 * i + 1]);
        }
        if (random.nextInt(4) != 0) {
            fit(name, arguments);
        }
        return call(seed, name, arguments);
    }

    private int drawArgument(int least, int greatest) {
        int kind = random.nextInt(40);
        if (kind == 0) {
            return EXTREMES[random.nextInt(EXTREMES.length)];
        }
        if (kind == 1) {
            return (random.nextBoolean() ? least : greatest) + random.nextInt(3) - 1;
        }
        return least + random.nextInt(greatest - least + 1);
    }

    /** Arguments that fit the state, so that most calls are no errors and buffers are not too easy. */
    private void fit(String name, int[] arguments) {
        int n = Math.max(1, frames);
        switch (name) {
            case "append": arguments[0] = 1 + random.nextInt(scale); arguments[1] = random.nextInt(2 * scale); break;
            case "frame": case "coded": case "bitsAt": case "lossAt": case "adjust": case "planned":
                arguments[0] = random.nextInt(n); break;
            case "set": arguments[0] = random.nextInt(n); arguments[1] = 1 + random.nextInt(scale);
                arguments[2] = random.nextInt(2 * scale); break;
            case "demand": arguments[0] = random.nextInt(n);
                arguments[1] = arguments[0] + random.nextInt(n - arguments[0]); break;
            case "scene": arguments[0] = random.nextInt(1 + n / 3); break;
            case "setWeight": arguments[0] = random.nextInt(5); break;
            case "addZone": arguments[1] = Math.min(59, arguments[0] + random.nextInt(10)); break;
            case "setRange": arguments[0] = random.nextInt(25); arguments[1] = 20 + random.nextInt(32); break;
            case "setBuffer": arguments[0] = 100 + random.nextInt(60 * scale + 300); break;
            case "setRate": arguments[0] = random.nextInt(20 * scale + 100); break;
            case "distribute": case "relax": arguments[0] = random.nextInt(n * (40 + 10 * scale)); break;
            default: break;
        }
    }

    /** Types a text that is mostly a clip, and loads it. */
    private boolean drawClip(int seed) {
        if (random.nextInt(3) == 0) {
            scale = 1 << random.nextInt(12);
        }
        StringBuilder text = new StringBuilder();
        int runs = random.nextInt(12);
        for (int run = 0; run < runs; run++) {
            text.append(run == 0 ? "" : blanks() + ";").append(blanks()).append(1 + random.nextInt(scale));
            text.append(blanks()).append("/").append(blanks()).append(random.nextInt(scale + scale / 2 + 1));
            if (random.nextBoolean()) {
                text.append(blanks()).append("*").append(blanks()).append(1 + random.nextInt(8));
            }
        }
        text.append(blanks());
        int faults = random.nextInt(4) == 0 ? 1 + random.nextInt(3) : 0;
        for (int fault = 0; fault < faults && text.length() > 0; fault++) {
            int index = random.nextInt(text.length());
            char letter = "0123456789/*; x\u0000".charAt(random.nextInt(16));
            switch (random.nextInt(4)) {
                case 0: text.setCharAt(index, letter); break;
                case 1: text.deleteCharAt(index); break;
                case 2: text.setLength(index); break;
                default: text.insert(index, letter); break;
            }
        }
        if (!call(seed, "clear")) {
            return false;
        }
        for (int i = 0; i < text.length(); i++) {
            if (!call(seed, "type", text.charAt(i))) {
                return false;
            }
        }
        return call(seed, "load");
    }

    private String blanks() {
        return random.nextInt(8) == 0 ? " ".repeat(1 + random.nextInt(2)) : "";
    }

    private boolean call(int seed, String name, int... arguments) {
        if (calls == MOST_CALLS) {
            return true;
        }
        calls++;
        Call call = new Call(name, arguments);
        long got = call.on(planner);
        long due = call.on(plain);
        told.append(call).append(" -> ").append(due).append('\n');
        frames = plain.count(0);
        ANSWERS.computeIfAbsent(name, key -> new int[3])[got > 0 ? 0 : got == 0 ? 1 : 2]++;
        Check.due("run " + seed + ": " + call, got, due);
        return got == due;
    }
}
