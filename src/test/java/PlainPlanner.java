import java.util.ArrayList;
import java.util.Arrays;
import java.util.List;
import java.util.stream.IntStream;

/**
 * The document once more, as literally and as slowly as it can be written, for AgainstPlainTest: every answer
 * is worked out from the frames and settings alone, by trying all there is, without what RatePlanner keeps.
 */
public final class PlainPlanner {
    private record Frame(int texture, int motion) { }

    private record Zone(int first, int last, int offset) { }

    private record Passage(int[] before, int[] after, int[] lack, int[] stuffed) {
        int underflows() {
            return (int) Arrays.stream(lack).filter(bits -> bits > 0).count();
        }
    }

    private record Saved(List<Frame> clip, int[] settings, int[] weights, List<Zone> zones, int[] plan) { }

    private static final int INTERVAL = 0, BRIDGES = 1, LEAST = 2, GREATEST = 3, SIZE = 4, START = 5, RATE = 6;

    private List<Frame> clip = new ArrayList<>();
    private int[] settings = {12, 2, 10, 45, 60000, 90, 4000};
    private int[] weights = new int[60];
    private List<Zone> zones = new ArrayList<>();
    private int[] plan = null;
    private int[] types = null;
    private int[] sceneNumbers = null;
    private List<Integer> order = null;
    private String text = "";
    private final Saved[] slots = new Saved[2];

    public PlainPlanner() {
        Arrays.fill(weights, 4);
    }

    private void anew() {
        plan = null;
        types = null;
        sceneNumbers = null;
        order = null;
    }

    private static boolean out(int value, int least, int greatest) {
        return value < least || value > greatest;
    }

    public int append(int texture, int motion) {
        if (out(texture, 1, 4000) || out(motion, 0, 4000)) return -2;
        if (clip.size() == 60) return -4;
        clip.add(new Frame(texture, motion));
        anew();
        return clip.size() - 1;
    }

    public int set(int frame, int texture, int motion) {
        if (out(frame, 0, clip.size() - 1) || out(texture, 1, 4000) || out(motion, 0, 4000)) return -2;
        clip.set(frame, new Frame(texture, motion));
        anew();
        return isCut(frame) ? 1 : 0;
    }

    public int drop() {
        if (clip.isEmpty()) return -3;
        clip.remove(clip.size() - 1);
        anew();
        return clip.size();
    }

    public int type(int letter) {
        if (out(letter, 0, 127)) return -2;
        if (text.length() == 100) return -4;
        text += (char) letter;
        return text.length();
    }

    public int clear() {
        int length = text.length();
        text = "";
        return length;
    }

    public int load() {
        List<Frame> loaded = new ArrayList<>();
        int fault = fault(loaded);
        if (fault >= 0) return -2000 - fault;
        clip = loaded;
        anew();
        text = "";
        return clip.size();
    }

    /**
     * Byte by byte: what may stand next is told by where in a run we are. 0: a run, or the end, at the very
     * beginning; 1, 3, 5: in or behind the first, second, third number; 2, 4: before the second, third number;
     * 6: a run behind a semicolon.
     */
    private int fault(List<Frame> loaded) {
        int where = 0;
        String digits = "";
        boolean ended = false;
        int first = 0;
        int[] numbers = new int[6];
        for (int i = 0; i <= text.length(); i++) {
            int c = i < text.length() ? text.charAt(i) : -1;
            boolean inNumber = where % 2 == 1 && !ended;
            if (inNumber && c >= '0' && c <= '9' && digits.length() < 4) {
                digits += (char) c;
                continue;
            }
            if (inNumber) {
                int number = Integer.parseInt(digits);
                ended = true;
                int least = where == 3 ? 0 : 1;
                int greatest = where == 5 ? 60 - loaded.size() : 4000;
                if (out(number, least, greatest)) return first;
                numbers[where] = number;
            }
            if (c == ' ') continue;
            boolean begins = where == 0 || where == 6;
            if (begins && where == 6 && loaded.size() == 60) return i;
            if (where % 2 == 0) {
                if (c == -1 && where == 0) return -1;
                if (c < '0' || c > '9') return i;
                where = begins ? 1 : where + 1;
                digits = "" + (char) c;
                ended = false;
                first = i;
                continue;
            }
            if (where == 1 && c == '/') {
                where = 2;
            } else if (where == 3 && c == '*') {
                where = 4;
            } else if (where >= 3 && (c == ';' || c == -1)) {
                int times = where == 5 ? numbers[5] : 1;
                for (int k = 0; k < times; k++) loaded.add(new Frame(numbers[1], numbers[3]));
                if (c == -1) return -1;
                where = 6;
            } else {
                return i;
            }
        }
        return text.length();
    }

    private boolean isCut(int i) {
        return i > 0 && 2 * clip.get(i).motion() > 3 * clip.get(i).texture();
    }

    private boolean[] intras() {
        boolean[] intras = new boolean[clip.size()];
        int latest = 0;
        for (int i = 0; i < intras.length; i++) {
            intras[i] = i == 0 || isCut(i) || i - latest == settings[INTERVAL];
            if (intras[i]) latest = i;
        }
        return intras;
    }

    private int groupFirst(int i) {
        boolean[] intras = intras();
        while (!intras[i]) i--;
        return i;
    }

    private int groupLength(int i) {
        boolean[] intras = intras();
        int end = i + 1;
        while (end < clip.size() && !intras[end]) end++;
        return end - groupFirst(i);
    }

    private int typeOf(int i) {
        if (types == null) types = IntStream.range(0, clip.size()).map(this::typeAnew).toArray();
        return types[i];
    }

    private int typeAnew(int i) {
        int k = i - groupFirst(i);
        if (k == 0) return 0;
        return k == groupLength(i) - 1 || k % (settings[BRIDGES] + 1) == 0 ? 1 : 2;
    }

    private int sceneOf(int i) {
        if (sceneNumbers == null) sceneNumbers = IntStream.range(0, clip.size()).map(this::sceneAnew).toArray();
        return sceneNumbers[i];
    }

    private int sceneAnew(int i) {
        int scene = 0;
        for (int k = 1; k <= i; k++) if (isCut(k)) scene++;
        return scene;
    }

    private int scenes() {
        return clip.isEmpty() ? 0 : sceneOf(clip.size() - 1) + 1;
    }

    /** Group by group: the intra frame, then each forward frame with the bridges before it. */
    private List<Integer> order() {
        if (order == null) order = orderAnew();
        return order;
    }

    private List<Integer> orderAnew() {
        List<Integer> order = new ArrayList<>();
        for (int first = 0; first < clip.size(); first += groupLength(first)) {
            order.add(first);
            int end = first + groupLength(first);
            for (int i = first + 1; i < end; i++) {
                if (typeOf(i) == 1) {
                    order.add(i);
                    for (int b = first + 1; b < i; b++) if (!order.contains(b)) order.add(b);
                }
            }
        }
        return order;
    }

    private int workOf(int i) {
        Frame frame = clip.get(i);
        int[] works = {4 * frame.texture(), frame.texture() + 2 * frame.motion(), frame.texture() / 2 + frame.motion()};
        return works[typeOf(i)];
    }

    private static int step(int q) {
        return new int[] {10, 11, 13, 14, 16, 18}[q % 6] * (int) Math.pow(2, q / 6);
    }

    private int bits(int i, int q) {
        return 40 + workOf(i) * 200 / step(q);
    }

    private int loss(int i, int q) {
        return weights[sceneOf(i)] * (3 - typeOf(i)) * step(q) * step(q) / 16;
    }

    private int settle(int i, int q) {
        for (Zone zone : zones) if (!out(i, zone.first(), zone.last())) q += zone.offset();
        return Math.min(settings[GREATEST], Math.max(settings[LEAST], q));
    }

    public int frame(int frame, int what) {
        if (out(frame, 0, clip.size() - 1) || out(what, 0, 7)) return -2;
        return new int[] {clip.get(frame).texture(), clip.get(frame).motion(), typeOf(frame), sceneOf(frame),
            order().indexOf(frame), workOf(frame), groupFirst(frame), groupLength(frame)}[what];
    }

    public int coded(int place) {
        return out(place, 0, clip.size() - 1) ? -2 : order().get(place);
    }

    private int change(int which, int value) {
        int previous = settings[which];
        settings[which] = value;
        return previous;
    }

    public int setInterval(int interval) {
        if (out(interval, 1, 60)) return -2;
        anew();
        return change(INTERVAL, interval);
    }

    public int setBridges(int bridges) {
        if (out(bridges, 0, 3)) return -2;
        anew();
        return change(BRIDGES, bridges);
    }

    public int setWeight(int scene, int weight) {
        if (out(scene, 0, 59) || out(weight, 1, 8)) return -2;
        int previous = weights[scene];
        weights[scene] = weight;
        return previous;
    }

    public int setRange(int least, int greatest) {
        if (out(least, 0, 51) || out(greatest, least, 51)) return -2;
        return 100 * change(LEAST, least) + change(GREATEST, greatest);
    }

    public int setBuffer(int size, int start) {
        if (out(size, 100, 1000000) || out(start, 0, 100)) return -2;
        change(START, start);
        return change(SIZE, size);
    }

    public int setRate(int rate) {
        return out(rate, 0, 100000) ? -2 : change(RATE, rate);
    }

    public int addZone(int first, int last, int offset) {
        if (out(first, 0, 59) || out(last, first, 59) || out(offset, -10, 10)) return -2;
        if (zones.size() == 6) return -4;
        zones.add(new Zone(first, last, offset));
        return zones.size();
    }

    public int clearZones() {
        int previous = zones.size();
        zones.clear();
        return previous;
    }

    public int bitsAt(int frame, int quantizer) {
        return out(frame, 0, clip.size() - 1) || out(quantizer, 0, 51) ? -2 : bits(frame, quantizer);
    }

    public int lossAt(int frame, int quantizer) {
        return out(frame, 0, clip.size() - 1) || out(quantizer, 0, 51) ? -2 : loss(frame, quantizer);
    }

    /** By place; with a quantizer of -1 a frame is left out, as is all behind it. */
    private Passage pass(int[] plan, int size, int start, int rate) {
        List<Integer> order = order();
        int n = order.size();
        Passage passage = new Passage(new int[n], new int[n], new int[n], new int[n]);
        int content = size * start / 100;
        for (int p = 0; p < n; p++) {
            if (p > 0) content += rate;
            if (content > size) {
                passage.stuffed()[p] = content - size;
                content = size;
            }
            passage.before()[p] = content;
            if (plan[order.get(p)] < 0) return passage;
            int taken = bits(order.get(p), plan[order.get(p)]);
            if (content < taken) {
                passage.lack()[p] = taken - content;
                content = 0;
            } else {
                content -= taken;
            }
            passage.after()[p] = content;
        }
        return passage;
    }

    private Passage pass(int[] plan) {
        return pass(plan, settings[SIZE], settings[START], settings[RATE]);
    }

    private int[] constantPlan(int quantizer) {
        int[] made = new int[clip.size()];
        for (int i = 0; i < made.length; i++) made[i] = settle(i, quantizer + new int[] {-3, 0, 2}[typeOf(i)]);
        return made;
    }

    public int constant(int quantizer) {
        if (out(quantizer, 0, 51)) return -2;
        if (clip.isEmpty()) return -3;
        plan = constantPlan(quantizer);
        return pass(plan).underflows();
    }

    public int control(int base, int gain) {
        if (out(base, 0, 51) || out(gain, 0, 200)) return -2;
        if (clip.isEmpty()) return -3;
        int[] made = new int[clip.size()];
        Arrays.fill(made, -1);
        List<Integer> order = order();
        for (int p = 0; p < made.length; p++) {
            long content = pass(made).before()[p];
            long q = base + (settings[SIZE] / 2 - content) * gain / settings[SIZE];
            int i = order.get(p);
            made[i] = settle(i, (int) q + (typeOf(i) == 0 ? -3 : typeOf(i) == 1 ? 0 : 2));
        }
        plan = made;
        return pass(plan).underflows();
    }

    private int share(int i) {
        return (int) Math.floor(Math.sqrt(workOf(i) * weights[sceneOf(i)] * 64.0));
    }

    public int distribute(int bits) {
        int n = clip.size();
        if (out(bits, 0, 10000000)) return -2;
        if (n == 0 || bits < 40 * n) return -3;
        long sum = 0;
        for (int i = 0; i < n; i++) sum += share(i);
        plan = new int[n];
        for (int i = 0; i < n; i++) {
            long target = 40 + (long) (bits - 40 * n) * share(i) / sum;
            int chosen = settings[GREATEST];
            for (int q = settings[GREATEST]; q >= settings[LEAST]; q--) if (bits(i, q) <= target) chosen = q;
            plan[i] = settle(i, chosen);
        }
        return pass(plan).underflows();
    }

    public int smooth(int most) {
        if (out(most, 0, 51)) return -2;
        if (plan == null) return -3;
        List<Integer> order = order();
        int[] old = plan.clone();
        for (int p = 1; p < plan.length; p++) {
            int q = plan[order.get(p - 1)];
            int i = order.get(p);
            if (sceneOf(i) != sceneOf(order.get(p - 1))) continue;
            if (plan[i] > q + most) plan[i] = q + most;
            if (plan[i] < q - most) plan[i] = q - most;
        }
        int changed = 0;
        for (int i = 0; i < plan.length; i++) if (plan[i] != old[i]) changed++;
        return changed;
    }

    public int repair() {
        if (plan == null) return -3;
        List<Integer> order = order();
        int[] trial = plan.clone();
        int rounds = 0;
        while (true) {
            Passage passage = pass(trial);
            int u = 0;
            while (u < trial.length && passage.lack()[u] == 0) u++;
            if (u == trial.length) break;
            int w = 0;
            for (int p = 0; p <= u; p++) if (passage.before()[p] == settings[SIZE]) w = p;
            int best = -1;
            int bestNext = 0;
            long bestCost = Long.MAX_VALUE;
            for (int p = w; p <= u; p++) {
                int i = order.get(p);
                int next = trial[i] + 1;
                while (next <= settings[GREATEST] && bits(i, next) >= bits(i, trial[i])) next++;
                if (next > settings[GREATEST]) continue;
                long cost = 1000L * (loss(i, next) - loss(i, trial[i])) / (bits(i, trial[i]) - bits(i, next));
                if (cost < bestCost) {
                    best = i;
                    bestNext = next;
                    bestCost = cost;
                }
            }
            if (best < 0) return -3;
            trial[best] = bestNext;
            rounds++;
        }
        plan = trial;
        return rounds;
    }

    public int relax(int bits) {
        if (out(bits, 0, 10000000)) return -2;
        if (plan == null) return -3;
        List<Integer> order = order();
        int allowed = pass(plan).underflows();
        int rounds = 0;
        while (rounds < 500) {
            int best = -1;
            long bestGain = -1;
            for (int i : order) {
                if (plan[i] <= settings[LEAST]) continue;
                long increase = bits(i, plan[i] - 1) - bits(i, plan[i]);
                long decrease = loss(i, plan[i]) - loss(i, plan[i] - 1);
                long gain = increase <= 0 ? 2000000000L : 1000L * decrease / increase;
                if (gain <= bestGain) continue;
                plan[i]--;
                boolean possible = allBits(plan) <= bits && pass(plan).underflows() <= allowed;
                plan[i]++;
                if (possible) {
                    best = i;
                    bestGain = gain;
                }
            }
            if (best < 0) break;
            plan[best]--;
            rounds++;
        }
        return rounds;
    }

    private long allBits(int[] plan) {
        long sum = 0;
        for (int i = 0; i < plan.length; i++) sum += bits(i, plan[i]);
        return sum;
    }

    public int adjust(int frame, int quantizer) {
        if (out(frame, 0, clip.size() - 1) || out(quantizer, 0, 51)) return -2;
        if (plan == null) return -3;
        int previous = plan[frame];
        plan[frame] = quantizer;
        return previous;
    }

    public int planned(int frame, int what) {
        if (out(frame, 0, clip.size() - 1) || out(what, 0, 6)) return -2;
        if (plan == null) return -3;
        Passage passage = pass(plan);
        int p = order().indexOf(frame);
        return new int[] {plan[frame], bits(frame, plan[frame]), loss(frame, plan[frame]), passage.before()[p],
            passage.after()[p], passage.lack()[p], passage.stuffed()[p]}[what];
    }

    public long total(int what) {
        if (out(what, 0, 6)) return -2;
        if (plan == null) return -3;
        Passage passage = pass(plan);
        List<Integer> order = order();
        long losses = 0;
        long changes = 0;
        for (int p = 0; p < plan.length; p++) {
            losses += loss(p, plan[p]);
            if (p > 0) changes += Math.abs(plan[order.get(p)] - plan[order.get(p - 1)]);
        }
        return new long[] {allBits(plan), losses, sum(passage.lack()), sum(passage.stuffed()), passage.underflows(),
            sum(plan), changes}[what];
    }

    private static long sum(int[] row) {
        return Arrays.stream(row).asLongStream().sum();
    }

    public int scene(int scene, int what) {
        if (out(scene, 0, scenes() - 1) || out(what, 0, 5)) return -2;
        if (plan == null && (what == 3 || what == 4)) return -3;
        List<Integer> frames = new ArrayList<>();
        for (int i = 0; i < clip.size(); i++) if (sceneOf(i) == scene) frames.add(i);
        int bits = 0;
        int quantizers = 0;
        int intras = 0;
        for (int i : frames) {
            if (plan != null) {
                bits += bits(i, plan[i]);
                quantizers += plan[i];
            }
            if (typeOf(i) == 0) intras++;
        }
        return new int[] {frames.get(0), frames.size(), weights[scene], bits, 10 * quantizers / frames.size(),
            intras}[what];
    }

    /** From the greatest value down, in strides and then singly, without leaning on one search for all. */
    private int least(int which, int least, int greatest) {
        if (plan == null) return -3;
        int found = -1;
        for (int stride = 100000; stride > 0; stride /= 10) {
            int from = found < 0 ? greatest : found;
            for (int value = from; value >= least; value -= stride) {
                int[] old = settings.clone();
                settings[which] = value;
                boolean will = pass(plan).underflows() == 0;
                settings = old;
                if (!will) break;
                found = value;
            }
            if (found < 0) return -1;
        }
        return found;
    }

    public int leastSize() {
        return least(SIZE, 100, 1000000);
    }

    public int leastStart() {
        return least(START, 0, 100);
    }

    public int leastRate() {
        return least(RATE, 0, 100000);
    }

    public int bestConstant() {
        if (clip.isEmpty()) return -3;
        for (int q = 0; q <= 51; q++) if (pass(constantPlan(q)).underflows() == 0) return q;
        return -1;
    }

    public int demand(int first, int last) {
        if (out(first, 0, clip.size() - 1) || out(last, first, clip.size() - 1)) return -2;
        if (plan == null) return -3;
        List<Integer> order = order();
        long greatest = Long.MIN_VALUE;
        for (int p = first; p <= last; p++) {
            long value = -(long) settings[RATE] * (p - first);
            for (int k = first; k <= p; k++) value += bits(order.get(k), plan[order.get(k)]);
            greatest = Math.max(greatest, value);
        }
        return (int) greatest;
    }

    public int save(int slot) {
        if (out(slot, 0, 1)) return -2;
        slots[slot] = new Saved(List.copyOf(clip), settings.clone(), weights.clone(), List.copyOf(zones),
            plan == null ? null : plan.clone());
        return clip.size();
    }

    public int restore(int slot) {
        if (out(slot, 0, 1)) return -2;
        Saved saved = slots[slot];
        if (saved == null) return -3;
        anew();
        clip = new ArrayList<>(saved.clip());
        settings = saved.settings().clone();
        weights = saved.weights().clone();
        zones = new ArrayList<>(saved.zones());
        plan = saved.plan() == null ? null : saved.plan().clone();
        return clip.size();
    }

    public int count(int what) {
        if (out(what, 0, 10)) return -2;
        int groups = 0;
        for (boolean intra : intras()) if (intra) groups++;
        return new int[] {clip.size(), scenes(), groups, plan == null ? 0 : 1, zones.size(), settings[INTERVAL],
            settings[BRIDGES], settings[SIZE], settings[START], settings[RATE], text.length()}[what];
    }

    public long digest() {
        List<Long> numbers = new ArrayList<>();
        for (int what = 0; what <= 10; what++) numbers.add((long) count(what));
        for (int i = 0; i < clip.size(); i++) {
            for (int what = 0; what <= 7; what++) numbers.add((long) frame(i, what));
            if (plan != null) for (int what = 0; what <= 6; what++) numbers.add((long) planned(i, what));
        }
        for (int s = 0; s < scenes(); s++) for (int what = 0; what <= 2; what++) numbers.add((long) scene(s, what));
        if (plan != null) for (int what = 0; what <= 6; what++) numbers.add(total(what));
        for (char letter : text.toCharArray()) numbers.add((long) letter);
        long hash = 367;
        for (long number : numbers) hash = 31 * hash + number;
        return hash;
    }
}
