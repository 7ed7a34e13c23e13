import java.util.Arrays;

/** Counts the answers that are not due; each test ends with end(). */
final class Check {
    private static int asked = 0;
    private static int wrong = 0;

    private Check() {
    }

    static void due(String call, long got, long due) {
        asked++;
        if (got != due) {
            wrong++;
            System.out.println(call + " answered " + got + ", due is " + due);
        }
    }

    static void due(String what, long[] got, long... due) {
        asked++;
        if (!Arrays.equals(got, due)) {
            wrong++;
            System.out.println(what + " is " + Arrays.toString(got) + ", due is " + Arrays.toString(due));
        }
    }

    static void holds(String what, boolean held) {
        asked++;
        if (!held) {
            wrong++;
            System.out.println("does not hold: " + what);
        }
    }

    static void end(String test) {
        System.out.println(test + ": " + asked + " checks, " + wrong + " wrong");
        if (wrong != 0 || asked == 0) {
            System.exit(1);
        }
    }

    /** A planner with frames of these textures and motions, in turn. */
    static RatePlanner clip(int... texturesAndMotions) {
        RatePlanner planner = new RatePlanner();
        for (int i = 0; i + 1 < texturesAndMotions.length; i += 2) {
            due("append", planner.append(texturesAndMotions[i], texturesAndMotions[i + 1]), i / 2);
        }
        return planner;
    }

    /** A planner with so many frames of the texture and motion. */
    static RatePlanner frames(int frames, int texture, int motion) {
        RatePlanner planner = new RatePlanner();
        for (int frame = 0; frame < frames; frame++) {
            due("append", planner.append(texture, motion), frame);
        }
        return planner;
    }

    static void write(RatePlanner planner, String text) {
        planner.clear();
        for (int i = 0; i < text.length(); i++) {
            due("type at " + i, planner.type(text.charAt(i)), i + 1);
        }
    }

    static long[] quantizers(RatePlanner planner) {
        long[] row = new long[planner.count(0)];
        for (int frame = 0; frame < row.length; frame++) {
            row[frame] = planner.planned(frame, 0);
        }
        return row;
    }

    static long[] property(RatePlanner planner, int what) {
        long[] row = new long[planner.count(0)];
        for (int frame = 0; frame < row.length; frame++) {
            row[frame] = planner.frame(frame, what);
        }
        return row;
    }

    static long[] order(RatePlanner planner) {
        long[] row = new long[planner.count(0)];
        for (int place = 0; place < row.length; place++) {
            row[place] = planner.coded(place);
        }
        return row;
    }
}
