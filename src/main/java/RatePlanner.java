/** A planner of bit rates for video clips. The document tells what each call answers. */
public final class RatePlanner {
    public static final int NONE = -1, BAD = -2, STATE = -3, FULL = -4;

    private static final int MOST_FRAMES = 60;
    private static final int MOST_ZONES = 6;
    private static final int MOST_LETTERS = 100;
    private static final int MOST_DIGITS = 4;
    private static final int MOST_LETTER = 127;
    private static final int MOST_TEXTURE = 4000;
    private static final int MOST_MOTION = 4000;
    private static final int MOST_INTERVAL = 60;
    private static final int MOST_BRIDGES = 3;
    private static final int MOST_WEIGHT = 8;
    private static final int MOST_QUANTIZER = 51;
    private static final int LEAST_SIZE = 100;
    private static final int MOST_SIZE = 1000000;
    private static final int MOST_START = 100;
    private static final int MOST_RATE = 100000;
    private static final int MOST_OFFSET = 10;
    private static final int MOST_GAIN = 200;
    private static final int MOST_BITS = 10000000;
    private static final int MOST_RELAXATIONS = 500;
    private static final int MOST_HALVINGS = 32;
    private static final int LAST_SLOT = 1;
    private static final int FRAME_WHATS = 8;
    private static final int PLANNED_WHATS = 7;
    private static final int TOTAL_WHATS = 7;
    private static final int SCENE_WHATS = 6;
    private static final int DIGEST_SCENE_WHATS = 3;
    private static final int COUNT_WHATS = 11;
    private static final int INTRA = 0;
    private static final int FORWARD = 1;
    private static final int BRIDGE = 2;
    private static final int FRAME_BITS = 40;
    private static final int FREE_GAIN = 2000000000;
    private static final int FIRST_FAULT = -2000;
    private static final int STEPS_UNTIL_DOUBLE = 6;
    private static final int[] FIRST_STEPS = {10, 11, 13, 14, 16, 18};

    private final Clip clip = new Clip();
    private final Settings settings = new Settings();
    private final Plan plan = new Plan();
    private final Text text = new Text();
    private final Layout layout = new Layout();
    private final Model model = new Model(layout, settings);
    private final Course course = new Course(model);
    private final Maker maker = new Maker(model, course);
    private final Mender mender = new Mender(model, course);
    private final Finder finder = new Finder(model, course, maker);
    private final Slot firstSlot = new Slot();
    private final Slot secondSlot = new Slot();

    public RatePlanner() {
    }

    // ---- the clip

    public int append(int texture, int motion) {
        if (!isPicture(texture, motion)) {
            return BAD;
        }
        if (clip.length >= MOST_FRAMES) {
            return FULL;
        }
        clip.add(texture, motion);
        arrangeAnew();
        return clip.length - 1;
    }

    public int set(int frame, int texture, int motion) {
        if (!isFrame(frame) || !isPicture(texture, motion)) {
            return BAD;
        }
        put(clip.textures, frame, texture);
        put(clip.motions, frame, motion);
        arrangeAnew();
        return clip.isCut(frame) ? 1 : 0;
    }

    public int drop() {
        if (clip.length == 0) {
            return STATE;
        }
        clip.length--;
        arrangeAnew();
        return clip.length;
    }

    public int type(int letter) {
        if (!within(letter, 0, MOST_LETTER)) {
            return BAD;
        }
        if (text.length >= MOST_LETTERS) {
            return FULL;
        }
        text.add(letter);
        return text.length;
    }

    public int clear() {
        int length = text.length;
        text.length = 0;
        return length;
    }

    public int load() {
        int fault = text.readClip();
        if (fault >= 0) {
            return FIRST_FAULT - fault;
        }
        clip.copyFrom(text.read);
        text.length = 0;
        arrangeAnew();
        return clip.length;
    }

    public int frame(int frame, int what) {
        if (!isFrame(frame) || !within(what, 0, FRAME_WHATS - 1)) {
            return BAD;
        }
        switch (what) {
            case 0: return at(clip.textures, frame);
            case 1: return at(clip.motions, frame);
            case 2: return at(layout.types, frame);
            case 3: return at(layout.sceneNumbers, frame);
            case 4: return at(layout.places, frame);
            case 5: return at(layout.works, frame);
            case 6: return at(layout.groupFirsts, frame);
            default: return at(layout.groupLengths, frame);
        }
    }

    public int coded(int place) {
        return isFrame(place) ? at(layout.order, place) : BAD;
    }

    // ---- settings; each returns the previous value

    public int setInterval(int interval) {
        if (!within(interval, 1, MOST_INTERVAL)) {
            return BAD;
        }
        int previous = settings.interval;
        settings.interval = interval;
        arrangeAnew();
        return previous;
    }

    public int setBridges(int bridges) {
        if (!within(bridges, 0, MOST_BRIDGES)) {
            return BAD;
        }
        int previous = settings.bridges;
        settings.bridges = bridges;
        arrangeAnew();
        return previous;
    }

    public int setWeight(int scene, int weight) {
        if (!within(scene, 0, MOST_FRAMES - 1) || !within(weight, 1, MOST_WEIGHT)) {
            return BAD;
        }
        int previous = at(settings.weights, scene);
        put(settings.weights, scene, weight);
        return previous;
    }

    public int setRange(int least, int greatest) {
        if (!isQuantizer(least) || !within(greatest, least, MOST_QUANTIZER)) {
            return BAD;
        }
        int previous = 100 * settings.least + settings.greatest;
        settings.least = least;
        settings.greatest = greatest;
        return previous;
    }

    public int setBuffer(int size, int start) {
        if (!within(size, LEAST_SIZE, MOST_SIZE) || !within(start, 0, MOST_START)) {
            return BAD;
        }
        int previous = settings.size;
        settings.size = size;
        settings.start = start;
        return previous;
    }

    public int setRate(int rate) {
        if (!within(rate, 0, MOST_RATE)) {
            return BAD;
        }
        int previous = settings.rate;
        settings.rate = rate;
        return previous;
    }

    public int addZone(int first, int last, int offset) {
        if (!within(first, 0, MOST_FRAMES - 1) || !within(last, first, MOST_FRAMES - 1)
                || !within(offset, -MOST_OFFSET, MOST_OFFSET)) {
            return BAD;
        }
        if (settings.zones >= MOST_ZONES) {
            return FULL;
        }
        settings.putZone(first, last, offset);
        return settings.zones;
    }

    public int clearZones() {
        int zones = settings.zones;
        settings.zones = 0;
        return zones;
    }

    // ---- the model, without a plan

    public int bitsAt(int frame, int quantizer) {
        return isFrame(frame) && isQuantizer(quantizer) ? model.bitsOf(frame, quantizer) : BAD;
    }

    public int lossAt(int frame, int quantizer) {
        return isFrame(frame) && isQuantizer(quantizer) ? model.lossOf(frame, quantizer) : BAD;
    }

    // ---- making plans

    public int constant(int quantizer) {
        if (!isQuantizer(quantizer)) {
            return BAD;
        }
        if (clip.length == 0) {
            return STATE;
        }
        maker.planConstant(plan.quantizers, quantizer);
        return underflowsOfNewPlan();
    }

    public int control(int base, int gain) {
        if (!isQuantizer(base) || !within(gain, 0, MOST_GAIN)) {
            return BAD;
        }
        if (clip.length == 0) {
            return STATE;
        }
        maker.planControlled(plan.quantizers, base, gain);
        return underflowsOfNewPlan();
    }

    public int distribute(int bits) {
        if (!within(bits, 0, MOST_BITS)) {
            return BAD;
        }
        if (clip.length == 0 || bits < FRAME_BITS * clip.length) {
            return STATE;
        }
        maker.planDistributed(plan.quantizers, bits);
        return underflowsOfNewPlan();
    }

    public int smooth(int most) {
        if (!isQuantizer(most)) {
            return BAD;
        }
        return plan.made ? mender.smoothen(plan.quantizers, most) : STATE;
    }

    public int repair() {
        return plan.made ? mender.mend(plan.quantizers) : STATE;
    }

    public int relax(int bits) {
        if (!within(bits, 0, MOST_BITS)) {
            return BAD;
        }
        return plan.made ? mender.loosen(plan.quantizers, bits) : STATE;
    }

    public int adjust(int frame, int quantizer) {
        if (!isFrame(frame) || !isQuantizer(quantizer)) {
            return BAD;
        }
        if (!plan.made) {
            return STATE;
        }
        int previous = at(plan.quantizers, frame);
        put(plan.quantizers, frame, quantizer);
        return previous;
    }

    // ---- what a plan is like

    public int planned(int frame, int what) {
        if (!isFrame(frame) || !within(what, 0, PLANNED_WHATS - 1)) {
            return BAD;
        }
        if (!plan.made) {
            return STATE;
        }
        course.follow(plan.quantizers);
        return followedFrame(frame, what);
    }

    public long total(int what) {
        if (!within(what, 0, TOTAL_WHATS - 1)) {
            return BAD;
        }
        if (!plan.made) {
            return STATE;
        }
        course.follow(plan.quantizers);
        return followedTotal(what);
    }

    public int scene(int scene, int what) {
        if (!within(scene, 0, layout.scenes - 1) || !within(what, 0, SCENE_WHATS - 1)) {
            return BAD;
        }
        if (!plan.made && (what == 3 || what == 4)) {
            return STATE;
        }
        switch (what) {
            case 0: return layout.firstOfScene(scene);
            case 1: return layout.framesOfScene(scene);
            case 2: return at(settings.weights, scene);
            case 3: return bitsOfScene(scene);
            case 4: return meanOfScene(scene);
            default: return layout.groupsOfScene(scene);
        }
    }

    // ---- what would do; nothing changes

    public int leastSize() {
        return plan.made ? finder.findSize(plan.quantizers) : STATE;
    }

    public int leastStart() {
        return plan.made ? finder.findStart(plan.quantizers) : STATE;
    }

    public int leastRate() {
        return plan.made ? finder.findRate(plan.quantizers) : STATE;
    }

    public int bestConstant() {
        return clip.length == 0 ? STATE : finder.findConstant();
    }

    public int demand(int first, int last) {
        if (!isFrame(first) || !within(last, first, clip.length - 1)) {
            return BAD;
        }
        return plan.made ? finder.findDemand(plan.quantizers, first, last) : STATE;
    }

    // ---- slots

    public int save(int slot) {
        if (!within(slot, 0, LAST_SLOT)) {
            return BAD;
        }
        Slot target = slot == 0 ? firstSlot : secondSlot;
        target.clip.copyFrom(clip);
        target.settings.copyFrom(settings);
        target.plan.copyFrom(plan);
        target.used = true;
        return clip.length;
    }

    public int restore(int slot) {
        if (!within(slot, 0, LAST_SLOT)) {
            return BAD;
        }
        Slot source = slot == 0 ? firstSlot : secondSlot;
        if (!source.used) {
            return STATE;
        }
        clip.copyFrom(source.clip);
        settings.copyFrom(source.settings);
        arrangeAnew();
        plan.copyFrom(source.plan);
        return clip.length;
    }

    public int count(int what) {
        switch (what) {
            case 0: return clip.length;
            case 1: return layout.scenes;
            case 2: return layout.groups;
            case 3: return plan.made ? 1 : 0;
            case 4: return settings.zones;
            case 5: return settings.interval;
            case 6: return settings.bridges;
            case 7: return settings.size;
            case 8: return settings.start;
            case 9: return settings.rate;
            case 10: return text.length;
            default: return BAD;
        }
    }

    public long digest() {
        long hash = 367;
        for (int what = 0; what < COUNT_WHATS; what++) {
            hash = 31 * hash + count(what);
        }
        if (plan.made) {
            course.follow(plan.quantizers);
        }
        for (int frame = 0; frame < clip.length; frame++) {
            hash = hashFrame(hash, frame);
        }
        for (int scene = 0; scene < layout.scenes; scene++) {
            for (int what = 0; what < DIGEST_SCENE_WHATS; what++) {
                hash = 31 * hash + scene(scene, what);
            }
        }
        if (plan.made) {
            for (int what = 0; what < TOTAL_WHATS; what++) {
                hash = 31 * hash + followedTotal(what);
            }
        }
        for (int index = 0; index < text.length; index++) {
            hash = 31 * hash + text.letterAt(index);
        }
        return hash;
    }

    private long hashFrame(long before, int frame) {
        long hash = before;
        for (int what = 0; what < FRAME_WHATS; what++) {
            hash = 31 * hash + frame(frame, what);
        }
        if (plan.made) {
            for (int what = 0; what < PLANNED_WHATS; what++) {
                hash = 31 * hash + followedFrame(frame, what);
            }
        }
        return hash;
    }

    private void arrangeAnew() {
        plan.made = false;
        layout.arrange(clip, settings);
    }

    private int underflowsOfNewPlan() {
        plan.made = true;
        course.follow(plan.quantizers);
        return course.underflows;
    }

    /** Leans on the course that has followed the plan, so that many questions need one passage. */
    private int followedFrame(int frame, int what) {
        int quantizer = at(plan.quantizers, frame);
        int place = at(layout.places, frame);
        switch (what) {
            case 0: return quantizer;
            case 1: return at(course.bits, place);
            case 2: return model.lossOf(frame, quantizer);
            case 3: return at(course.befores, place);
            case 4: return at(course.afters, place);
            case 5: return at(course.lacks, place);
            default: return at(course.surpluses, place);
        }
    }

    /** Leans on the course that has followed the plan, as followedFrame does. */
    private long followedTotal(int what) {
        if (what == 4) {
            return course.underflows;
        }
        if (what == 6) {
            return changesOfPlan();
        }
        long sum = 0;
        for (int frame = 0; frame < clip.length; frame++) {
            switch (what) {
                case 0: sum += followedFrame(frame, 1); break;
                case 1: sum += followedFrame(frame, 2); break;
                case 2: sum += followedFrame(frame, 5); break;
                case 3: sum += followedFrame(frame, 6); break;
                default: sum += followedFrame(frame, 0); break;
            }
        }
        return sum;
    }

    private long changesOfPlan() {
        long sum = 0;
        for (int place = 1; place < clip.length; place++) {
            int before = at(plan.quantizers, at(layout.order, place - 1));
            sum += Math.abs(at(plan.quantizers, at(layout.order, place)) - before);
        }
        return sum;
    }

    private int bitsOfScene(int scene) {
        int sum = 0;
        for (int frame = 0; frame < clip.length; frame++) {
            if (at(layout.sceneNumbers, frame) == scene) {
                sum += model.bitsOf(frame, at(plan.quantizers, frame));
            }
        }
        return sum;
    }

    private int meanOfScene(int scene) {
        int sum = 0;
        for (int frame = 0; frame < clip.length; frame++) {
            if (at(layout.sceneNumbers, frame) == scene) {
                sum += at(plan.quantizers, frame);
            }
        }
        return (int) ratio(10 * sum, layout.framesOfScene(scene));
    }

    private boolean isFrame(int frame) {
        return within(frame, 0, clip.length - 1);
    }

    private static boolean isPicture(int texture, int motion) {
        return within(texture, 1, MOST_TEXTURE) && within(motion, 0, MOST_MOTION);
    }

    private static boolean isQuantizer(int quantizer) {
        return within(quantizer, 0, MOST_QUANTIZER);
    }

    private static boolean within(int value, int least, int greatest) {
        return value >= least && value <= greatest;
    }

    private static int limit(int value, int least, int greatest) {
        return Math.max(least, Math.min(greatest, value));
    }

    /** No row is ever read or written past its ends: whatever the index is, nothing is thrown. */
    private static int at(int[] row, int index) {
        return index >= 0 && index < row.length ? row[index] : 0;
    }

    private static long at(long[] row, int index) {
        return index >= 0 && index < row.length ? row[index] : 0;
    }

    private static void put(int[] row, int index, int value) {
        if (index >= 0 && index < row.length) {
            row[index] = value;
        }
    }

    private static void put(long[] row, int index, long value) {
        if (index >= 0 && index < row.length) {
            row[index] = value;
        }
    }

    private static void copyRow(int[] source, int[] target) {
        System.arraycopy(source, 0, target, 0, Math.min(source.length, target.length));
    }

    /** No divisor here is 0 in any state; the test keeps the machine from throwing all the same. */
    private static long ratio(long dividend, long divisor) {
        return divisor == 0 ? 0 : dividend / divisor;
    }

    /** The frames as they were appended or loaded. */
    private static final class Clip {
        int length;
        final int[] textures = new int[MOST_FRAMES];
        final int[] motions = new int[MOST_FRAMES];

        void add(int texture, int motion) {
            put(textures, length, texture);
            put(motions, length, motion);
            length++;
        }

        boolean isCut(int frame) {
            return frame > 0 && 2 * at(motions, frame) > 3 * at(textures, frame);
        }

        void copyFrom(Clip other) {
            length = other.length;
            copyRow(other.textures, textures);
            copyRow(other.motions, motions);
        }
    }

    /** All that the setting calls set. */
    private static final class Settings {
        int interval = 12;
        int bridges = 2;
        int least = 10;
        int greatest = 45;
        int size = 60000;
        int start = 90;
        int rate = 4000;
        int zones;
        final int[] weights = new int[MOST_FRAMES];
        final int[] zoneFirsts = new int[MOST_ZONES];
        final int[] zoneLasts = new int[MOST_ZONES];
        final int[] zoneOffsets = new int[MOST_ZONES];

        Settings() {
            for (int scene = 0; scene < weights.length; scene++) {
                weights[scene] = 4;
            }
        }

        void putZone(int first, int last, int offset) {
            put(zoneFirsts, zones, first);
            put(zoneLasts, zones, last);
            put(zoneOffsets, zones, offset);
            zones++;
        }

        int settle(int frame, int quantizer) {
            int sum = quantizer;
            for (int zone = 0; zone < zones; zone++) {
                if (within(frame, at(zoneFirsts, zone), at(zoneLasts, zone))) {
                    sum += at(zoneOffsets, zone);
                }
            }
            return limit(sum, least, greatest);
        }

        void copyFrom(Settings other) {
            interval = other.interval;
            bridges = other.bridges;
            least = other.least;
            greatest = other.greatest;
            size = other.size;
            start = other.start;
            rate = other.rate;
            zones = other.zones;
            copyRow(other.weights, weights);
            copyRow(other.zoneFirsts, zoneFirsts);
            copyRow(other.zoneLasts, zoneLasts);
            copyRow(other.zoneOffsets, zoneOffsets);
        }
    }

    /** A quantizer for each frame, by its number, or no plan. */
    private static final class Plan {
        boolean made;
        final int[] quantizers = new int[MOST_FRAMES];

        void copyFrom(Plan other) {
            made = other.made;
            copyRow(other.quantizers, quantizers);
        }
    }

    /** What save() keeps. */
    private static final class Slot {
        boolean used;
        final Clip clip = new Clip();
        final Settings settings = new Settings();
        final Plan plan = new Plan();
    }

    /** The bytes that were typed, read from left to right: the fault met first is the one with the least index. */
    private static final class Text {
        int length;
        final Clip read = new Clip();
        private final int[] letters = new int[MOST_LETTERS];
        private int index;
        private int number;
        private int fault;

        void add(int letter) {
            put(letters, length, letter);
            length++;
        }

        /** Behind the text stands NONE, which is no letter, so that reading needs no other test for the end. */
        int letterAt(int place) {
            return place < length ? at(letters, place) : NONE;
        }

        /** Returns the fault of the text, or NONE when its clip has been read. */
        int readClip() {
            read.length = 0;
            index = 0;
            skipBlanks();
            if (index >= length) {
                return NONE;
            }
            // Each run brings a frame at least, so the one that begins behind 60 runs is refused.
            for (int run = 0; run <= MOST_FRAMES; run++) {
                if (read.length >= MOST_FRAMES) {
                    return index;
                }
                if (!readRun()) {
                    return fault;
                }
                if (index >= length) {
                    return NONE;
                }
                if (!readSign(';')) {
                    return fault;
                }
            }
            return index;
        }

        private boolean readRun() {
            if (!readNumber(1, MOST_TEXTURE)) {
                return false;
            }
            int texture = number;
            if (!readSign('/') || !readNumber(0, MOST_MOTION)) {
                return false;
            }
            int motion = number;
            int frames = 1;
            if (letterAt(index) == '*') {
                if (!readSign('*') || !readNumber(1, MOST_FRAMES - read.length)) {
                    return false;
                }
                frames = number;
            }
            for (int frame = 0; frame < frames; frame++) {
                read.add(texture, motion);
            }
            return true;
        }

        private boolean readSign(int sign) {
            if (letterAt(index) != sign) {
                fault = index;
                return false;
            }
            index++;
            skipBlanks();
            return true;
        }

        private boolean readNumber(int least, int greatest) {
            int begin = index;
            number = 0;
            while (index < begin + MOST_DIGITS && within(letterAt(index), '0', '9')) {
                number = 10 * number + letterAt(index) - '0';
                index++;
            }
            if (index == begin || !within(number, least, greatest)) {
                fault = begin;
                return false;
            }
            skipBlanks();
            return true;
        }

        private void skipBlanks() {
            while (index < length && letterAt(index) == ' ') {
                index++;
            }
        }
    }

    /** What follows from the clip, the interval and the number of bridges; rows by frame, the order by place. */
    private static final class Layout {
        int length;
        int scenes;
        int groups;
        final int[] types = new int[MOST_FRAMES];
        final int[] sceneNumbers = new int[MOST_FRAMES];
        final int[] groupFirsts = new int[MOST_FRAMES];
        final int[] groupLengths = new int[MOST_FRAMES];
        final int[] works = new int[MOST_FRAMES];
        final int[] places = new int[MOST_FRAMES];
        final int[] order = new int[MOST_FRAMES];

        void arrange(Clip clip, Settings settings) {
            length = clip.length;
            findStarts(clip, settings.interval);
            measureGroups();
            chooseTypes(settings.bridges);
            putInOrder();
            weighWorks(clip);
        }

        private void findStarts(Clip clip, int interval) {
            scenes = 0;
            groups = 0;
            int first = 0;
            for (int frame = 0; frame < length; frame++) {
                boolean opensScene = frame == 0 || clip.isCut(frame);
                if (opensScene) {
                    scenes++;
                }
                if (opensScene || frame - first >= interval) {
                    groups++;
                    first = frame;
                }
                put(sceneNumbers, frame, scenes - 1);
                put(groupFirsts, frame, first);
            }
        }

        private void measureGroups() {
            int end = length;
            for (int frame = length - 1; frame >= 0; frame--) {
                int first = at(groupFirsts, frame);
                put(groupLengths, frame, end - first);
                if (frame == first) {
                    end = frame;
                }
            }
        }

        private void chooseTypes(int bridges) {
            for (int frame = 0; frame < length; frame++) {
                int inGroup = frame - at(groupFirsts, frame);
                boolean closesGroup = inGroup == at(groupLengths, frame) - 1;
                if (inGroup == 0) {
                    put(types, frame, INTRA);
                } else if (closesGroup || isMultiple(inGroup, bridges + 1)) {
                    put(types, frame, FORWARD);
                } else {
                    put(types, frame, BRIDGE);
                }
            }
        }

        private static boolean isMultiple(int value, int divisor) {
            return divisor != 0 && value % divisor == 0;
        }

        /** A group ends with a frame that is no bridge, so no bridge waits beyond its group. */
        private void putInOrder() {
            int place = 0;
            int waiting = 0;
            for (int frame = 0; frame < length; frame++) {
                if (at(types, frame) != BRIDGE) {
                    putAt(place, frame);
                    place++;
                    for (int bridge = waiting; bridge < frame; bridge++) {
                        putAt(place, bridge);
                        place++;
                    }
                    waiting = frame + 1;
                }
            }
        }

        private void putAt(int place, int frame) {
            put(order, place, frame);
            put(places, frame, place);
        }

        private void weighWorks(Clip clip) {
            for (int frame = 0; frame < length; frame++) {
                put(works, frame, workOf(at(types, frame), at(clip.textures, frame), at(clip.motions, frame)));
            }
        }

        private static int workOf(int type, int texture, int motion) {
            switch (type) {
                case INTRA: return 4 * texture;
                case FORWARD: return texture + 2 * motion;
                default: return texture / 2 + motion;
            }
        }

        int firstOfScene(int scene) {
            for (int frame = 0; frame < length; frame++) {
                if (at(sceneNumbers, frame) == scene) {
                    return frame;
                }
            }
            return NONE;
        }

        int framesOfScene(int scene) {
            int frames = 0;
            for (int frame = 0; frame < length; frame++) {
                if (at(sceneNumbers, frame) == scene) {
                    frames++;
                }
            }
            return frames;
        }

        int groupsOfScene(int scene) {
            int intras = 0;
            for (int frame = 0; frame < length; frame++) {
                if (at(sceneNumbers, frame) == scene && at(types, frame) == INTRA) {
                    intras++;
                }
            }
            return intras;
        }
    }

    /** The bits and the loss of a frame with a quantizer. */
    private static final class Model {
        final Layout layout;
        final Settings settings;
        private final int[] steps = new int[MOST_QUANTIZER + 1];

        Model(Layout layout, Settings settings) {
            this.layout = layout;
            this.settings = settings;
            for (int quantizer = 0; quantizer < steps.length; quantizer++) {
                steps[quantizer] = at(FIRST_STEPS, quantizer % STEPS_UNTIL_DOUBLE) << quantizer / STEPS_UNTIL_DOUBLE;
            }
        }

        int bitsOf(int frame, int quantizer) {
            return FRAME_BITS + (int) ratio(at(layout.works, frame) * 200, at(steps, quantizer));
        }

        int lossOf(int frame, int quantizer) {
            int step = at(steps, quantizer);
            int share = 3 - at(layout.types, frame);
            return weightOf(frame) * share * step * step / 16;
        }

        int weightOf(int frame) {
            return at(settings.weights, at(layout.sceneNumbers, frame));
        }
    }

    /** How frames pass the buffer; its rows are by place, and hold until the next passage. */
    private static final class Course {
        int underflows;
        final int[] bits = new int[MOST_FRAMES];
        final int[] befores = new int[MOST_FRAMES];
        final int[] afters = new int[MOST_FRAMES];
        final int[] lacks = new int[MOST_FRAMES];
        final int[] surpluses = new int[MOST_FRAMES];
        private final Model model;
        private int size;
        private int rate;
        private int content;

        Course(Model model) {
            this.model = model;
        }

        void follow(int[] quantizers) {
            takeBits(quantizers);
            passAsSet();
        }

        void takeBits(int[] quantizers) {
            for (int place = 0; place < model.layout.length; place++) {
                int frame = at(model.layout.order, place);
                put(bits, place, model.bitsOf(frame, at(quantizers, frame)));
            }
        }

        void passAsSet() {
            pass(model.settings.size, model.settings.start, model.settings.rate);
        }

        void pass(int bufferSize, int start, int bufferRate) {
            begin(bufferSize, start, bufferRate);
            for (int place = 0; place < model.layout.length; place++) {
                fillBefore(place);
                takeOut(place, at(bits, place));
            }
        }

        void begin(int bufferSize, int start, int bufferRate) {
            size = bufferSize;
            rate = bufferRate;
            content = bufferSize * start / 100;
            underflows = 0;
        }

        /** Returns the content of the buffer before the bits of the frame at the place are taken out. */
        int fillBefore(int place) {
            int filled = place == 0 ? content : content + rate;
            content = Math.min(filled, size);
            put(befores, place, content);
            put(surpluses, place, filled - content);
            return content;
        }

        void takeOut(int place, int taken) {
            int lack = Math.max(0, taken - content);
            if (lack > 0) {
                underflows++;
            }
            content = Math.max(0, content - taken);
            put(lacks, place, lack);
            put(afters, place, content);
        }

        int firstUnderflow() {
            for (int place = 0; place < model.layout.length; place++) {
                if (at(lacks, place) > 0) {
                    return place;
                }
            }
            return NONE;
        }

        int lastFullNotBehind(int end) {
            for (int place = end; place > 0; place--) {
                if (at(befores, place) == size) {
                    return place;
                }
            }
            return 0;
        }

        int sumOfBits() {
            int sum = 0;
            for (int place = 0; place < model.layout.length; place++) {
                sum += at(bits, place);
            }
            return sum;
        }
    }

    /** Writes the quantizers of new plans, by frame. */
    private static final class Maker {
        private final Model model;
        private final Settings settings;
        private final Layout layout;
        private final Course course;
        private final int[] shares = new int[MOST_FRAMES];

        Maker(Model model, Course course) {
            this.model = model;
            this.settings = model.settings;
            this.layout = model.layout;
            this.course = course;
        }

        void planConstant(int[] quantizers, int quantizer) {
            for (int frame = 0; frame < layout.length; frame++) {
                put(quantizers, frame, settings.settle(frame, quantizer + offsetOf(frame)));
            }
        }

        void planControlled(int[] quantizers, int base, int gain) {
            int size = settings.size;
            course.begin(size, settings.start, settings.rate);
            for (int place = 0; place < layout.length; place++) {
                int frame = at(layout.order, place);
                int content = course.fillBefore(place);
                int answer = (int) ratio((size / 2 - content) * gain, size);
                int quantizer = settings.settle(frame, base + answer + offsetOf(frame));
                put(quantizers, frame, quantizer);
                course.takeOut(place, model.bitsOf(frame, quantizer));
            }
        }

        private int offsetOf(int frame) {
            switch (at(layout.types, frame)) {
                case INTRA: return -3;
                case FORWARD: return 0;
                default: return 2;
            }
        }

        void planDistributed(int[] quantizers, int bits) {
            long sum = weighShares();
            long spare = bits - FRAME_BITS * layout.length;
            for (int frame = 0; frame < layout.length; frame++) {
                long target = FRAME_BITS + ratio(spare * at(shares, frame), sum);
                put(quantizers, frame, settings.settle(frame, leastWithin(frame, target)));
            }
        }

        private long weighShares() {
            long sum = 0;
            for (int frame = 0; frame < layout.length; frame++) {
                int share = rootOf(at(layout.works, frame) * model.weightOf(frame) * 64);
                put(shares, frame, share);
                sum += share;
            }
            return sum;
        }

        private int leastWithin(int frame, long target) {
            for (int quantizer = settings.least; quantizer < settings.greatest; quantizer++) {
                if (model.bitsOf(frame, quantizer) <= target) {
                    return quantizer;
                }
            }
            return settings.greatest;
        }

        /** Of a value below 2^24: 16000 * 8 * 64 is the greatest that a frame has. */
        private static int rootOf(int value) {
            int root = 0;
            for (int bit = 2048; bit > 0; bit /= 2) {
                if ((root + bit) * (root + bit) <= value) {
                    root += bit;
                }
            }
            return root;
        }
    }

    /** Changes the quantizers of a plan. */
    private static final class Mender {
        private final Model model;
        private final Settings settings;
        private final Layout layout;
        private final Course course;
        private final int[] trial = new int[MOST_FRAMES];
        private final int[] nexts = new int[MOST_FRAMES];
        private final long[] costs = new long[MOST_FRAMES];
        private final long[] gains = new long[MOST_FRAMES];

        Mender(Model model, Course course) {
            this.model = model;
            this.settings = model.settings;
            this.layout = model.layout;
            this.course = course;
        }

        int smoothen(int[] quantizers, int most) {
            int changed = 0;
            for (int place = 1; place < layout.length; place++) {
                int frame = at(layout.order, place);
                int before = at(layout.order, place - 1);
                if (at(layout.sceneNumbers, frame) == at(layout.sceneNumbers, before)) {
                    int centre = at(quantizers, before);
                    int limited = limit(at(quantizers, frame), centre - most, centre + most);
                    if (limited != at(quantizers, frame)) {
                        put(quantizers, frame, limited);
                        changed++;
                    }
                }
            }
            return changed;
        }

        /** Returns the rounds, or STATE if the repair fails; the quantizers change only when it doesn't. */
        int mend(int[] quantizers) {
            copyRow(quantizers, trial);
            course.takeBits(trial);
            for (int place = 0; place < layout.length; place++) {
                weighRaise(place);
            }
            // A round raises a quantizer, so there are never more than each of them from 0 to 51 allows.
            for (int round = 0; round <= MOST_FRAMES * MOST_QUANTIZER; round++) {
                course.passAsSet();
                int last = course.firstUnderflow();
                if (last < 0) {
                    copyRow(trial, quantizers);
                    return round;
                }
                int place = cheapestRaise(course.lastFullNotBehind(last), last);
                if (place < 0) {
                    return STATE;
                }
                raise(place);
            }
            return STATE;
        }

        private int cheapestRaise(int first, int last) {
            int cheapest = NONE;
            for (int place = first; place <= last; place++) {
                boolean possible = at(nexts, place) != NONE;
                if (possible && (cheapest < 0 || at(costs, place) < at(costs, cheapest))) {
                    cheapest = place;
                }
            }
            return cheapest;
        }

        private void raise(int place) {
            int frame = at(layout.order, place);
            int next = at(nexts, place);
            put(trial, frame, next);
            put(course.bits, place, model.bitsOf(frame, next));
            weighRaise(place);
        }

        private void weighRaise(int place) {
            int frame = at(layout.order, place);
            int quantizer = at(trial, frame);
            int next = nextOf(frame, quantizer);
            put(nexts, place, next);
            if (next != NONE) {
                long loss = model.lossOf(frame, next) - model.lossOf(frame, quantizer);
                long bits = model.bitsOf(frame, quantizer) - model.bitsOf(frame, next);
                put(costs, place, ratio(1000 * loss, bits));
            }
        }

        private int nextOf(int frame, int quantizer) {
            int bits = model.bitsOf(frame, quantizer);
            for (int next = quantizer + 1; next <= settings.greatest; next++) {
                if (model.bitsOf(frame, next) < bits) {
                    return next;
                }
            }
            return NONE;
        }

        /** Returns the rounds. */
        int loosen(int[] quantizers, int most) {
            course.follow(quantizers);
            int allowed = course.underflows;
            for (int place = 0; place < layout.length; place++) {
                weighLowering(quantizers, place);
            }
            int rounds = 0;
            // Other frames only take more bits from round to round, which never lets fewer frames underflow:
            // a frame that was impossible once stays so, and is not asked again.
            for (int turn = 0; turn < MOST_RELAXATIONS + MOST_FRAMES && rounds < MOST_RELAXATIONS; turn++) {
                int place = greatestGain();
                if (place < 0) {
                    break;
                }
                if (canLower(quantizers, place, most, allowed)) {
                    lower(quantizers, place);
                    rounds++;
                } else {
                    put(gains, place, NONE);
                }
            }
            return rounds;
        }

        private int greatestGain() {
            int greatest = NONE;
            for (int place = 0; place < layout.length; place++) {
                boolean possible = at(gains, place) != NONE;
                if (possible && (greatest < 0 || at(gains, place) > at(gains, greatest))) {
                    greatest = place;
                }
            }
            return greatest;
        }

        private boolean canLower(int[] quantizers, int place, int most, int allowed) {
            int frame = at(layout.order, place);
            int bits = at(course.bits, place);
            int lowered = model.bitsOf(frame, at(quantizers, frame) - 1);
            if (course.sumOfBits() - bits + lowered > most) {
                return false;
            }
            put(course.bits, place, lowered);
            course.passAsSet();
            put(course.bits, place, bits);
            return course.underflows <= allowed;
        }

        private void lower(int[] quantizers, int place) {
            int frame = at(layout.order, place);
            int lowered = at(quantizers, frame) - 1;
            put(quantizers, frame, lowered);
            put(course.bits, place, model.bitsOf(frame, lowered));
            weighLowering(quantizers, place);
        }

        /** NONE stands for a frame that can't be lowered: the gain of another one is never negative. */
        private void weighLowering(int[] quantizers, int place) {
            int frame = at(layout.order, place);
            int quantizer = at(quantizers, frame);
            if (quantizer <= settings.least) {
                put(gains, place, NONE);
                return;
            }
            long loss = model.lossOf(frame, quantizer) - model.lossOf(frame, quantizer - 1);
            long bits = model.bitsOf(frame, quantizer - 1) - model.bitsOf(frame, quantizer);
            put(gains, place, bits > 0 ? ratio(1000 * loss, bits) : FREE_GAIN);
        }
    }

    /** Finds what would do, and changes no plan. */
    private static final class Finder {
        private static final int SIZE = 0;
        private static final int START = 1;
        private static final int RATE = 2;

        private final Settings settings;
        private final Layout layout;
        private final Course course;
        private final Maker maker;
        private final int[] trial = new int[MOST_FRAMES];

        Finder(Model model, Course course, Maker maker) {
            this.settings = model.settings;
            this.layout = model.layout;
            this.course = course;
            this.maker = maker;
        }

        int findSize(int[] quantizers) {
            return findLeast(quantizers, SIZE, LEAST_SIZE, MOST_SIZE);
        }

        int findStart(int[] quantizers) {
            return findLeast(quantizers, START, 0, MOST_START);
        }

        int findRate(int[] quantizers) {
            return findLeast(quantizers, RATE, 0, MOST_RATE);
        }

        /** A greater size, start or rate never lets the content be less anywhere, so halving finds the least. */
        private int findLeast(int[] quantizers, int kind, int least, int greatest) {
            course.takeBits(quantizers);
            if (!suffices(kind, greatest)) {
                return NONE;
            }
            int low = least;
            int high = greatest;
            for (int halving = 0; halving < MOST_HALVINGS && low < high; halving++) {
                int middle = (low + high) / 2;
                if (suffices(kind, middle)) {
                    high = middle;
                } else {
                    low = middle + 1;
                }
            }
            return low;
        }

        private boolean suffices(int kind, int value) {
            int size = kind == SIZE ? value : settings.size;
            int start = kind == START ? value : settings.start;
            int rate = kind == RATE ? value : settings.rate;
            course.pass(size, start, rate);
            return course.underflows == 0;
        }

        int findConstant() {
            for (int quantizer = 0; quantizer <= MOST_QUANTIZER; quantizer++) {
                maker.planConstant(trial, quantizer);
                course.follow(trial);
                if (course.underflows == 0) {
                    return quantizer;
                }
            }
            return NONE;
        }

        int findDemand(int[] quantizers, int first, int last) {
            course.takeBits(quantizers);
            int sum = at(course.bits, first);
            int greatest = sum;
            for (int place = first + 1; place <= last && place < layout.length; place++) {
                sum += at(course.bits, place) - settings.rate;
                greatest = Math.max(greatest, sum);
            }
            return greatest;
        }
    }
}
