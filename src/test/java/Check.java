import java.util.Arrays;

/** Counts the answers that are not due; each test ends with end(). */
final class Check {
    private static int asked = 0;
    private static int wrong = 0;
    private static String sentence = "";

    private Check() {
    }

    /** The document's sentence, or the part of it, that the next checks hold to. */
    static void says(String words) {
        sentence = words;
    }

    static void due(String call, long got, long due) {
        tell(got == due, call + " answered " + got + ", due is " + due);
    }

    static void due(String what, long[] got, long... due) {
        tell(Arrays.equals(got, due), what + " is " + Arrays.toString(got) + ", due is " + Arrays.toString(due));
    }

    static void holds(String what, boolean held) {
        tell(held, "does not hold: " + what);
    }

    private static void tell(boolean right, String complaint) {
        asked++;
        if (!right) {
            wrong++;
            System.out.println(complaint + (sentence.isEmpty() ? "" : "; the document says: " + sentence));
        }
    }

    static void end(String test) {
        System.out.println(test + ": " + asked + " checks, " + wrong + " wrong");
        if (wrong != 0 || asked == 0) {
            System.exit(1);
        }
    }

    /** A planner with frames of these textures and motions, in turn. */
    static RatePlanner clip(int... texturesAndMotions) {
        RatePlanner planner = new RatePlanner();
        for (int i = 0; i + 1 < texturesAndMotions.length; i += 2) {
            due("append", planner.append(texturesAndMotions[i], texturesAndMotions[i + 1]), i / 2);
        }
        return planner;
    }

    /** A planner with so many frames of the texture and motion. */
    static RatePlanner frames(int frames, int texture, int motion) {
        RatePlanner planner = new RatePlanner();
        for (int frame = 0; frame < frames; frame++) {
            due("append", planner.append(texture, motion), frame);
        }
        return planner;
    }

    /** A planner with the clip that the text describes. */
    static RatePlanner load(String text) {
        RatePlanner planner = new RatePlanner();
        write(planner, text);
        holds("load() of '" + text + "'", planner.load() >= 0);
        return planner;
    }

    static void write(RatePlanner planner, String text) {
        planner.clear();
        for (int i = 0; i < text.length(); i++) {
            due("type at " + i, planner.type(text.charAt(i)), i + 1);
        }
    }

    /** All quantizers are allowed then. */
    static RatePlanner wide(RatePlanner planner) {
        planner.setRange(0, 51);
        return planner;
    }

    static RatePlanner buffered(RatePlanner planner, int size, int start, int rate) {
        holds("setBuffer", planner.setBuffer(size, start) > 0);
        holds("setRate", planner.setRate(rate) >= 0);
        return planner;
    }

    static void adjust(RatePlanner planner, int... quantizers) {
        for (int frame = 0; frame < quantizers.length; frame++) {
            planner.adjust(frame, quantizers[frame]);
        }
    }

    static long[] quantizers(RatePlanner planner) {
        long[] row = new long[planner.count(0)];
        for (int frame = 0; frame < row.length; frame++) {
            row[frame] = planner.planned(frame, 0);
        }
        return row;
    }

    static long[] property(RatePlanner planner, int what) {
        long[] row = new long[planner.count(0)];
        for (int frame = 0; frame < row.length; frame++) {
            row[frame] = planner.frame(frame, what);
        }
        return row;
    }

    static long[] order(RatePlanner planner) {
        long[] row = new long[planner.count(0)];
        for (int place = 0; place < row.length; place++) {
            row[place] = planner.coded(place);
        }
        return row;
    }
}
