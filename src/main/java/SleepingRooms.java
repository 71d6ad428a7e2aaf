/**
 * Power domains of a chip: rooms fed by supplies, scenes that switch the supplies, nets between
 * rooms with guards and lifts, scripts that are judged and planned, and lines of text.
 *
 * Every public method tests its arguments in the order in which the document names the errors.
 */
public final class SleepingRooms {
    public static final int UNKNOWN = -1, OUTSIDE = -2, STATE = -3, FULL = -4, NONE = -9;

    private static final int ROOMS = 6, SUPPLIES = 4, SCENES = 8, NETS = 16, STEPS = 40, CODES = 24;
    private static final int TOP_LEVEL = 3, TOP_LIFT = 3, TOP_REGISTERS = 9;
    private static final int TOP_CODE = 127, TOP_TEXT_INDEX = 39;

    private static final int HOLD = 0, FREE = 1, SAVE = 2, RESTORE = 3, SET_LEVEL = 4;

    /** The parts of a net as a set; the lift, shifted left by one, gives the two upper bits. */
    private static final int GUARD_PART = 1, UP_PART = 2, DOWN_PART = 4;

    private static final int WORD_ROOM = 0, WORD_NEAR = 1, WORD_NET = 2, WORD_SCENE = 3;
    private static final int WORD_GUARD = 4, WORD_LIFT = 5, WORD_KEEP = 6, WORDS = 7;

    private final Chip chip;
    private final Nets nets;
    private final Course course;
    private final Script script;
    private final Play play;
    private final Planner planner;
    private final Codes tape;
    private final Reader reader;
    private final Codes label;

    public SleepingRooms() {
        chip = new Chip();
        nets = new Nets(chip);
        course = new Course();
        script = new Script();
        play = new Play(chip, nets);
        planner = new Planner(chip, nets, play);
        tape = new Codes(CODES);
        reader = new Reader();
        label = new Codes(TOP_TEXT_INDEX + 1);
    }

    // ---- 1 the chip

    public int room(int r, int s) {
        if (!isRoom(r) || !isSupply(s)) {
            return UNKNOWN;
        }
        return chip.supplyOf.exchange(r, s);
    }

    public int near(int a, int b, int v) {
        if (!isRoom(a) || !isRoom(b)) {
            return UNKNOWN;
        }
        if (!within(v, 1)) {
            return OUTSIDE;
        }
        if (a == b) {
            return STATE;
        }
        return chip.setNeighbours(a, b, v == 1);
    }

    public int net(int a, int b) {
        if (!isRoom(a) || !isRoom(b)) {
            return UNKNOWN;
        }
        if (a == b) {
            return STATE;
        }
        if (nets.count >= NETS) {
            return FULL;
        }
        return nets.add(a, b);
    }

    public int scene(int l0, int l1, int l2, int l3) {
        if (!isLevel(l0) || !isLevel(l1) || !isLevel(l2) || !isLevel(l3)) {
            return OUTSIDE;
        }
        if (l0 == 0 || chip.sceneWith(l0, l1, l2, l3) != NONE) {
            return STATE;
        }
        if (chip.sceneCount >= SCENES) {
            return FULL;
        }
        return chip.addScene(l0, l1, l2, l3);
    }

    public int guard(int n, int v, int s) {
        if (!nets.has(n) || !isSupply(s)) {
            return UNKNOWN;
        }
        if (!within(v, 1)) {
            return OUTSIDE;
        }
        nets.setGuard(n, v, s);
        return 1;
    }

    public int open(int n) {
        if (!nets.has(n)) {
            return UNKNOWN;
        }
        int had = nets.isGuarded(n) ? 1 : 0;
        nets.setGuard(n, NONE, NONE);
        return had;
    }

    public int lift(int n, int w) {
        if (!nets.has(n)) {
            return UNKNOWN;
        }
        if (!within(w, TOP_LIFT)) {
            return OUTSIDE;
        }
        return nets.liftOf.exchange(n, w);
    }

    public int keep(int r, int k, int s) {
        if (!isRoom(r) || !isSupply(s)) {
            return UNKNOWN;
        }
        if (!within(k, TOP_REGISTERS)) {
            return OUTSIDE;
        }
        chip.keeperOf.put(r, s);
        return chip.registersOf.exchange(r, k);
    }

    public int anew() {
        int before = nets.count;
        chip.reset();
        nets.count = 0;
        script.clear();
        return before;
    }

    public int ofRoom(int r, int what) {
        if (!isRoom(r)) {
            return UNKNOWN;
        }
        switch (what) {
            case 0: return chip.supplyOf.at(r);
            case 1: return chip.registersOf.at(r);
            case 2: return chip.keeperOf.at(r);
            case 3: return chip.neighboursOf.at(r);
            case 4: return chip.scenesOn(r);
            case 5: return chip.scenesOffButKept(r);
            default: return OUTSIDE;
        }
    }

    public int levelIn(int scene, int s) {
        if (!chip.hasScene(scene) || !isSupply(s)) {
            return UNKNOWN;
        }
        return chip.level(scene, s);
    }

    // ---- 2 nets

    public int ofNet(int n, int what) {
        if (!nets.has(n)) {
            return UNKNOWN;
        }
        switch (what) {
            case 0: return nets.sourceOf.at(n);
            case 1: return nets.targetOf.at(n);
            case 2: return nets.guardValueOf.at(n);
            case 3: return nets.guardSupplyOf.at(n);
            case 4: return nets.liftOf.at(n);
            case 5: return nets.needs(n) & GUARD_PART;
            case 6: return nets.needs(n) >> 1;
            case 7: return nets.feed(n);
            case 8: return nets.uselessParts(n);
            case 9: return nets.scenesWithFault(n);
            default: return OUTSIDE;
        }
    }

    public int fault(int n, int scene) {
        if (!nets.has(n) || !chip.hasScene(scene)) {
            return UNKNOWN;
        }
        return nets.faultIn(n, scene);
    }

    public int faults(int f) {
        if (f < 1 || f > 4) {
            return OUTSIDE;
        }
        int pairs = 0;
        for (int n = 0; n < nets.count; n++) {
            for (int c = 0; c < chip.sceneCount; c++) {
                if (nets.faultIn(n, c) == f) {
                    pairs++;
                }
            }
        }
        return pairs;
    }

    public int mend() {
        int changed = 0;
        for (int n = 0; n < nets.count; n++) {
            if (nets.giveNeeds(n)) {
                changed++;
            }
        }
        return changed;
    }

    // ---- 3 ways

    public int way(int a, int b, int k) {
        if (!isRoom(a) || !isRoom(b)) {
            return UNKNOWN;
        }
        if (k != NONE && !within(k, ROOMS - 1)) {
            return OUTSIDE;
        }
        if (a == b) {
            return STATE;
        }
        int usable = bit(a) | bit(b) | chip.roomsOnWith(b);
        for (int r = 0; r < ROOMS; r++) {
            course.links.put(r, chip.neighboursOf.at(r) & usable);
        }
        course.seek(a, b, ROOMS);
        return course.lengthOrPlace(k);
    }

    // ---- 4 scripts

    public int step(int kind, int x, int y) {
        if (!isStep(kind, x, y)) {
            return OUTSIDE;
        }
        if (!script.add(kind, x, kind == SET_LEVEL ? y : 0)) {
            return FULL;
        }
        return script.count;
    }

    public int wipe() {
        int before = script.count;
        script.clear();
        return before;
    }

    public int stepAt(int k, int what) {
        if (k < 0 || k >= script.count) {
            return UNKNOWN;
        }
        switch (what) {
            case 0: return script.kinds.at(k);
            case 1: return script.xs.at(k);
            case 2: return script.ys.at(k);
            default: return OUTSIDE;
        }
    }

    public int judge(int scene, int what) {
        if (!chip.hasScene(scene)) {
            return UNKNOWN;
        }
        if (!within(what, 6)) {
            return OUTSIDE;
        }
        play.begin(scene);
        play.follow(script);
        switch (what) {
            case 0: return play.badStep;
            case 1: return play.badReason;
            case 2: return play.badNet;
            case 3: return play.sceneNow();
            case 4: return play.ready;
            case 5: return play.saved;
            default: return play.held;
        }
    }

    public int stride(int from, int to, int k) {
        if (!chip.hasScene(from) || !chip.hasScene(to)) {
            return UNKNOWN;
        }
        if (k != NONE && !within(k, SCENES - 1)) {
            return OUTSIDE;
        }
        seekStrides(from, to);
        return course.lengthOrPlace(k);
    }

    public int plan(int from, int to) {
        if (!chip.hasScene(from) || !chip.hasScene(to)) {
            return UNKNOWN;
        }
        seekStrides(from, to);
        if (course.length == 0) {
            return STATE;
        }
        if (!planner.make(course)) {
            return FULL;
        }
        script.copy(planner.draft);
        return script.count;
    }

    // ---- 5 texts

    public int key(int code) {
        if (!within(code, TOP_CODE)) {
            return OUTSIDE;
        }
        if (!tape.add(code)) {
            return FULL;
        }
        return tape.count;
    }

    public int blank() {
        int before = tape.count;
        tape.clear();
        return before;
    }

    public int line() {
        int word = reader.read(tape);
        if (word == NONE) {
            return -100 - reader.reach;
        }
        tape.clear();
        return 1000 + carryOut(word, reader.numbers);
    }

    public int text(int n, int i) {
        if (!nets.has(n)) {
            return UNKNOWN;
        }
        if (i < -1 || i > TOP_TEXT_INDEX) {
            return OUTSIDE;
        }
        writeLabel(n);
        return i == -1 ? label.count : label.at(i);
    }

    public int many(int what) {
        switch (what) {
            case 0: return chip.sceneCount;
            case 1: return nets.count;
            case 3: return script.count;
            case 4: return tape.count;
            case 2:
            case 5:
            case 6: return countNets(what);
            default: return OUTSIDE;
        }
    }

    // ---- helpers

    private static boolean within(int value, int top) {
        return value >= 0 && value <= top;
    }

    private static boolean isRoom(int r) {
        return within(r, ROOMS - 1);
    }

    private static boolean isSupply(int s) {
        return within(s, SUPPLIES - 1);
    }

    private static boolean isLevel(int level) {
        return within(level, TOP_LEVEL);
    }

    /** A net's number need not be that of a net that there is: judging finds that out. */
    private static boolean isStep(int kind, int x, int y) {
        switch (kind) {
            case HOLD:
            case FREE: return within(x, NETS - 1);
            case SAVE:
            case RESTORE: return isRoom(x);
            case SET_LEVEL: return isSupply(x) && isLevel(y);
            default: return false;
        }
    }

    private static int bit(int number) {
        return 1 << number;
    }

    private static boolean contains(int set, int number) {
        return (set & bit(number)) != 0;
    }

    private int countNets(int what) {
        int found = 0;
        for (int n = 0; n < nets.count; n++) {
            boolean counts = what == 2 ? nets.isGuarded(n)
                : what == 5 ? nets.scenesWithFault(n) != 0
                : nets.uselessParts(n) != 0;
            if (counts) {
                found++;
            }
        }
        return found;
    }

    private void seekStrides(int from, int to) {
        for (int c = 0; c < chip.sceneCount; c++) {
            course.links.put(c, chip.scenesOneSupplyFrom(c));
        }
        course.seek(from, to, chip.sceneCount);
    }

    private int carryOut(int word, Row numbers) {
        int a = numbers.at(0);
        int b = numbers.at(1);
        int c = numbers.at(2);
        switch (word) {
            case WORD_ROOM: return room(a, b);
            case WORD_NEAR: return near(a, b, c);
            case WORD_NET: return net(a, b);
            case WORD_SCENE: return scene(a, b, c, numbers.at(3));
            case WORD_GUARD: return guard(a, b, c);
            case WORD_LIFT: return lift(a, b);
            default: return keep(a, b, c);
        }
    }

    private void writeLabel(int n) {
        label.clear();
        label.add('a' + nets.sourceOf.at(n));
        label.add('>');
        label.add('a' + nets.targetOf.at(n));
        label.add(' ');
        if (nets.isGuarded(n)) {
            label.add('g');
            label.add('0' + nets.guardValueOf.at(n));
            label.add('0' + nets.guardSupplyOf.at(n));
        } else {
            label.add('-');
        }
        label.add(' ');
        label.addWord(liftWord(nets.liftOf.at(n)));
        label.add(' ');
        for (int c = 0; c < chip.sceneCount; c++) {
            label.add('0' + nets.faultIn(n, c));
        }
    }

    private static String liftWord(int lift) {
        switch (lift) {
            case 1: return "up";
            case 2: return "down";
            case 3: return "both";
            default: return "none";
        }
    }

    /** Numbers by index. The index is tested here, in one place, so that the machine never refuses it. */
    private static final class Row {
        private final int[] cells;

        Row(int size) {
            cells = new int[size > 0 ? size : 0];
        }

        int at(int i) {
            return i >= 0 && i < cells.length ? cells[i] : 0;
        }

        void put(int i, int value) {
            if (i >= 0 && i < cells.length) {
                cells[i] = value;
            }
        }

        int exchange(int i, int value) {
            int before = at(i);
            put(i, value);
            return before;
        }

        void clear() {
            for (int i = 0; i < cells.length; i++) {
                cells[i] = 0;
            }
        }
    }

    /** The rooms and the scenes. */
    private static final class Chip {
        final Row supplyOf = new Row(ROOMS);
        final Row neighboursOf = new Row(ROOMS);
        final Row registersOf = new Row(ROOMS);
        final Row keeperOf = new Row(ROOMS);
        final Row levels = new Row(SCENES * SUPPLIES);
        int sceneCount;

        void reset() {
            supplyOf.clear();
            neighboursOf.clear();
            registersOf.clear();
            keeperOf.clear();
            sceneCount = 0;
        }

        int setNeighbours(int a, int b, boolean joined) {
            int ofA = neighboursOf.at(a);
            int ofB = neighboursOf.at(b);
            neighboursOf.put(a, joined ? ofA | bit(b) : ofA & ~bit(b));
            neighboursOf.put(b, joined ? ofB | bit(a) : ofB & ~bit(a));
            return contains(ofA, b) ? 1 : 0;
        }

        boolean hasScene(int c) {
            return c >= 0 && c < sceneCount;
        }

        int addScene(int l0, int l1, int l2, int l3) {
            int first = sceneCount * SUPPLIES;
            levels.put(first, l0);
            levels.put(first + 1, l1);
            levels.put(first + 2, l2);
            levels.put(first + 3, l3);
            sceneCount++;
            return sceneCount - 1;
        }

        int level(int c, int s) {
            return levels.at(c * SUPPLIES + s);
        }

        int roomLevel(int c, int r) {
            return level(c, supplyOf.at(r));
        }

        int sceneWith(int l0, int l1, int l2, int l3) {
            for (int c = 0; c < sceneCount; c++) {
                if (level(c, 0) == l0 && level(c, 1) == l1 && level(c, 2) == l2 && level(c, 3) == l3) {
                    return c;
                }
            }
            return NONE;
        }

        int scenesOn(int r) {
            int set = 0;
            for (int c = 0; c < sceneCount; c++) {
                if (roomLevel(c, r) > 0) {
                    set |= bit(c);
                }
            }
            return set;
        }

        int scenesOffButKept(int r) {
            int set = 0;
            for (int c = 0; c < sceneCount; c++) {
                if (roomLevel(c, r) == 0 && level(c, keeperOf.at(r)) > 0) {
                    set |= bit(c);
                }
            }
            return set;
        }

        /** The rooms that are on in every scene in which the given room is on. */
        int roomsOnWith(int room) {
            int due = scenesOn(room);
            int set = 0;
            for (int r = 0; r < ROOMS; r++) {
                if ((due & ~scenesOn(r)) == 0) {
                    set |= bit(r);
                }
            }
            return set;
        }

        int suppliesThatDiffer(int c, int d) {
            int set = 0;
            for (int s = 0; s < SUPPLIES; s++) {
                if (level(c, s) != level(d, s)) {
                    set |= bit(s);
                }
            }
            return set;
        }

        int scenesOneSupplyFrom(int c) {
            int set = 0;
            for (int d = 0; d < sceneCount; d++) {
                if (Integer.bitCount(suppliesThatDiffer(c, d)) == 1) {
                    set |= bit(d);
                }
            }
            return set;
        }
    }

    /** The nets; a net without a guard has NONE as value and supply of its guard. */
    private static final class Nets {
        private final Chip chip;
        final Row sourceOf = new Row(NETS);
        final Row targetOf = new Row(NETS);
        final Row guardValueOf = new Row(NETS);
        final Row guardSupplyOf = new Row(NETS);
        final Row liftOf = new Row(NETS);
        int count;

        Nets(Chip chip) {
            this.chip = chip;
        }

        int add(int a, int b) {
            sourceOf.put(count, a);
            targetOf.put(count, b);
            setGuard(count, NONE, NONE);
            liftOf.put(count, 0);
            count++;
            return count - 1;
        }

        boolean has(int n) {
            return n >= 0 && n < count;
        }

        boolean isGuarded(int n) {
            return guardSupplyOf.at(n) != NONE;
        }

        void setGuard(int n, int value, int supply) {
            guardValueOf.put(n, value);
            guardSupplyOf.put(n, supply);
        }

        int faultIn(int n, int c) {
            int a = chip.roomLevel(c, sourceOf.at(n));
            int b = chip.roomLevel(c, targetOf.at(n));
            int lift = liftOf.at(n);
            if (b == 0) {
                return 0;
            }
            if (a == 0) {
                return guardFault(n, c, b);
            }
            if (a < b && (lift == 0 || lift == 2)) {
                return 3;
            }
            return a > b && (lift == 0 || lift == 1) ? 4 : 0;
        }

        private int guardFault(int n, int c, int due) {
            int level = isGuarded(n) ? chip.level(c, guardSupplyOf.at(n)) : 0;
            if (level == 0) {
                return 1;
            }
            return level == due ? 0 : 2;
        }

        int scenesWithFault(int n) {
            int set = 0;
            for (int c = 0; c < chip.sceneCount; c++) {
                if (faultIn(n, c) != 0) {
                    set |= bit(c);
                }
            }
            return set;
        }

        /** The set of the parts that the scenes ask for. */
        int needs(int n) {
            int parts = 0;
            for (int c = 0; c < chip.sceneCount; c++) {
                int a = chip.roomLevel(c, sourceOf.at(n));
                int b = chip.roomLevel(c, targetOf.at(n));
                if (b > 0 && a != b) {
                    parts |= a == 0 ? GUARD_PART : a < b ? UP_PART : DOWN_PART;
                }
            }
            return parts;
        }

        int uselessParts(int n) {
            int parts = liftOf.at(n) << 1 | (isGuarded(n) ? GUARD_PART : 0);
            return parts & ~needs(n);
        }

        /** The supply of the room to which the net goes always fits, so the search always finds one. */
        int feed(int n) {
            int room = targetOf.at(n);
            int s = 0;
            while (s < SUPPLIES - 1 && !feeds(s, room)) {
                s++;
            }
            return s;
        }

        private boolean feeds(int s, int room) {
            for (int c = 0; c < chip.sceneCount; c++) {
                int due = chip.roomLevel(c, room);
                if (due > 0 && chip.level(c, s) != due) {
                    return false;
                }
            }
            return true;
        }

        /** Gives the net exactly the parts that it needs, and tells whether that changes it. */
        boolean giveNeeds(int n) {
            int parts = needs(n);
            boolean guarded = (parts & GUARD_PART) != 0;
            int value = isGuarded(n) ? guardValueOf.at(n) : 0;
            int supply = guarded ? feed(n) : NONE;
            int lift = parts >> 1;
            boolean changes = supply != guardSupplyOf.at(n) || lift != liftOf.at(n);
            setGuard(n, guarded ? value : NONE, supply);
            liftOf.put(n, lift);
            return changes;
        }
    }

    /** The shortest and then smallest sequence of linked places (rooms or scenes). */
    private static final class Course {
        final Row links = new Row(SCENES);
        private final Row layers = new Row(SCENES);
        private final Row places = new Row(SCENES);
        int length;

        /** The links must go both ways; the length is 0 if there is no sequence. */
        void seek(int from, int to, int placeCount) {
            int distance = spread(from, to, placeCount);
            length = distance == NONE ? 0 : distance + 1;
            int place = from;
            for (int i = 0; i < length; i++) {
                if (i > 0) {
                    place = lowest(links.at(place) & layers.at(distance - i), placeCount);
                }
                places.put(i, place);
            }
        }

        /** Layer d is the set of the places at distance d from the last one. */
        private int spread(int from, int to, int placeCount) {
            int seen = 0;
            int layer = bit(to);
            for (int d = 0; d < placeCount; d++) {
                layers.put(d, layer);
                if (contains(layer, from)) {
                    return d;
                }
                seen |= layer;
                layer = linkedTo(layer, placeCount) & ~seen;
            }
            return NONE;
        }

        private int linkedTo(int set, int placeCount) {
            int found = 0;
            for (int p = 0; p < placeCount; p++) {
                if (contains(set, p)) {
                    found |= links.at(p);
                }
            }
            return found;
        }

        private static int lowest(int set, int placeCount) {
            for (int p = 0; p < placeCount; p++) {
                if (contains(set, p)) {
                    return p;
                }
            }
            return NONE;
        }

        int lengthOrPlace(int k) {
            if (k == NONE) {
                return length > 0 ? length : NONE;
            }
            return k >= 0 && k < length ? places.at(k) : NONE;
        }
    }

    /** The steps, in order. */
    private static final class Script {
        final Row kinds = new Row(STEPS);
        final Row xs = new Row(STEPS);
        final Row ys = new Row(STEPS);
        int count;

        boolean add(int kind, int x, int y) {
            if (count >= STEPS) {
                return false;
            }
            kinds.put(count, kind);
            xs.put(count, x);
            ys.put(count, y);
            count++;
            return true;
        }

        void clear() {
            count = 0;
        }

        void copy(Script other) {
            clear();
            for (int k = 0; k < other.count; k++) {
                add(other.kinds.at(k), other.xs.at(k), other.ys.at(k));
            }
        }
    }

    /** What is on, ready, saved and held while steps are done. */
    private static final class Play {
        private final Chip chip;
        private final Nets nets;
        private final Row levels = new Row(SUPPLIES);
        int ready;
        int saved;
        int held;
        int badStep;
        int badReason;
        int badNet;

        Play(Chip chip, Nets nets) {
            this.chip = chip;
            this.nets = nets;
        }

        void begin(int scene) {
            ready = 0;
            saved = 0;
            held = 0;
            for (int s = 0; s < SUPPLIES; s++) {
                levels.put(s, chip.level(scene, s));
            }
            for (int r = 0; r < ROOMS; r++) {
                if (isOn(r)) {
                    ready |= bit(r);
                } else if (canKeep(r)) {
                    saved |= bit(r);
                }
            }
            for (int n = 0; n < nets.count; n++) {
                if (nets.isGuarded(n) && !isOn(nets.sourceOf.at(n))) {
                    held |= bit(n);
                }
            }
        }

        /** Does the steps up to the first bad one. */
        void follow(Script script) {
            badStep = NONE;
            badReason = NONE;
            badNet = NONE;
            for (int k = 0; k < script.count && badStep == NONE; k++) {
                int kind = script.kinds.at(k);
                int x = script.xs.at(k);
                int y = script.ys.at(k);
                badReason = reasonNotToDo(kind, x, y);
                if (badReason == NONE) {
                    perform(kind, x, y);
                    findNetInDanger();
                }
                if (badReason != NONE) {
                    badStep = k;
                }
            }
        }

        private int reasonNotToDo(int kind, int x, int y) {
            switch (kind) {
                case HOLD:
                case FREE: return nets.has(x) && nets.isGuarded(x) ? NONE : 1;
                case SAVE: return isOn(x) && contains(ready, x) && canKeep(x) ? NONE : 2;
                case RESTORE: return isOn(x) && contains(saved, x) ? NONE : 3;
                default: return sceneAfter(x, y) != NONE ? NONE : 4;
            }
        }

        /** Does a step, whether it is bad or not. */
        void perform(int kind, int x, int y) {
            switch (kind) {
                case HOLD:
                    held |= bit(x);
                    break;
                case FREE:
                    held &= ~bit(x);
                    break;
                case SAVE:
                    saved |= bit(x);
                    break;
                case RESTORE:
                    ready |= bit(x);
                    break;
                default:
                    setLevel(x, y);
                    break;
            }
        }

        private void setLevel(int s, int level) {
            int before = levels.at(s);
            levels.put(s, level);
            for (int r = 0; r < ROOMS; r++) {
                boolean fed = chip.supplyOf.at(r) == s;
                if (level == 0 && fed) {
                    ready &= ~bit(r);
                }
                if (level == 0 && chip.keeperOf.at(r) == s) {
                    saved &= ~bit(r);
                }
                if (before == 0 && level > 0 && fed && chip.registersOf.at(r) == 0) {
                    ready |= bit(r);
                }
            }
        }

        /** Reason 5 of any net goes before reason 6 of any other. */
        private void findNetInDanger() {
            for (int reason = 5; reason <= 6; reason++) {
                for (int n = 0; n < nets.count; n++) {
                    if (isOn(nets.targetOf.at(n)) && danger(n) == reason) {
                        badReason = reason;
                        badNet = n;
                        return;
                    }
                }
            }
        }

        /** The reason for which a net to a room that is on is bad, or NONE. */
        private int danger(int n) {
            int source = nets.sourceOf.at(n);
            boolean isHeld = contains(held, n);
            if (!isOn(source)) {
                boolean guardIsOff = nets.isGuarded(n) && levels.at(nets.guardSupplyOf.at(n)) == 0;
                return !isHeld || guardIsOff ? 5 : NONE;
            }
            return !contains(ready, source) && !isHeld ? 6 : NONE;
        }

        private boolean isOn(int r) {
            return levels.at(chip.supplyOf.at(r)) > 0;
        }

        private boolean canKeep(int r) {
            return chip.registersOf.at(r) > 0 && levels.at(chip.keeperOf.at(r)) > 0;
        }

        int sceneNow() {
            return sceneAfter(0, levels.at(0));
        }

        /** The scene with the present levels, but for the level of one supply. */
        private int sceneAfter(int s, int level) {
            return chip.sceneWith(
                s == 0 ? level : levels.at(0),
                s == 1 ? level : levels.at(1),
                s == 2 ? level : levels.at(2),
                s == 3 ? level : levels.at(3));
        }
    }

    /** Writes plans into a draft, so that a plan that is too long leaves the script as it was. */
    private static final class Planner {
        private final Chip chip;
        private final Nets nets;
        private final Play play;
        final Script draft = new Script();
        private boolean fits;

        Planner(Chip chip, Nets nets, Play play) {
            this.chip = chip;
            this.nets = nets;
            this.play = play;
        }

        /** Tells whether the plan fits into a script. */
        boolean make(Course strides) {
            draft.clear();
            fits = true;
            play.begin(strides.lengthOrPlace(0));
            for (int i = 1; i < strides.length; i++) {
                int a = strides.lengthOrPlace(i - 1);
                int b = strides.lengthOrPlace(i);
                int s = supplyThatDiffers(a, b);
                if (chip.level(b, s) == 0) {
                    switchOff(s, b);
                } else if (chip.level(a, s) == 0) {
                    switchOn(s, b);
                } else {
                    take(SET_LEVEL, s, chip.level(b, s));
                }
            }
            return fits;
        }

        private int supplyThatDiffers(int a, int b) {
            int s = 0;
            while (s < SUPPLIES - 1 && chip.level(a, s) == chip.level(b, s)) {
                s++;
            }
            return s;
        }

        private void switchOff(int s, int b) {
            for (int n = 0; n < nets.count; n++) {
                if (nets.isGuarded(n) && !contains(play.held, n) && comesFrom(n, s)
                        && chip.roomLevel(b, nets.targetOf.at(n)) > 0) {
                    take(HOLD, n, 0);
                }
            }
            for (int r = 0; r < ROOMS; r++) {
                if (chip.supplyOf.at(r) == s && contains(play.ready, r) && chip.registersOf.at(r) > 0
                        && chip.level(b, chip.keeperOf.at(r)) > 0) {
                    take(SAVE, r, 0);
                }
            }
            take(SET_LEVEL, s, 0);
        }

        private void switchOn(int s, int b) {
            take(SET_LEVEL, s, chip.level(b, s));
            for (int r = 0; r < ROOMS; r++) {
                if (chip.supplyOf.at(r) == s && chip.registersOf.at(r) > 0 && contains(play.saved, r)) {
                    take(RESTORE, r, 0);
                }
            }
            for (int n = 0; n < nets.count; n++) {
                if (contains(play.held, n) && comesFrom(n, s)) {
                    take(FREE, n, 0);
                }
            }
        }

        private boolean comesFrom(int n, int s) {
            return chip.supplyOf.at(nets.sourceOf.at(n)) == s;
        }

        private void take(int kind, int x, int y) {
            if (!draft.add(kind, x, y)) {
                fits = false;
            }
            play.perform(kind, x, y);
        }
    }

    /** Codes of a text, up to a greatest number. */
    private static final class Codes {
        private final Row cells;
        private final int most;
        int count;

        Codes(int most) {
            this.most = most;
            cells = new Row(most);
        }

        boolean add(int code) {
            if (count >= most) {
                return false;
            }
            cells.put(count, code);
            count++;
            return true;
        }

        void addWord(String word) {
            for (int i = 0; i < word.length(); i++) {
                add(word.charAt(i));
            }
        }

        void clear() {
            count = 0;
        }

        /** NONE, which is no code, where there is none. */
        int at(int i) {
            return i >= 0 && i < count ? cells.at(i) : NONE;
        }
    }

    /** Reads a tape as a line. A capital letter of a form stands for a number, any other sign for itself. */
    private static final class Reader {
        final Row numbers = new Row(4);
        /** How many codes, from the first on, some line can begin with. */
        int reach;
        private int value;
        private boolean whole;

        /** The word of the line that the tape is, or NONE if it is none. */
        int read(Codes tape) {
            reach = 0;
            for (int word = 0; word < WORDS; word++) {
                whole = false;
                reach = Math.max(reach, match(tape, formOf(word)));
                if (whole) {
                    return word;
                }
            }
            return NONE;
        }

        private static String formOf(int word) {
            switch (word) {
                case WORD_ROOM: return "room R S";
                case WORD_NEAR: return "near R R V";
                case WORD_NET: return "net R R";
                case WORD_SCENE: return "scene L L L L";
                case WORD_GUARD: return "guard N V S";
                case WORD_LIFT: return "lift N W";
                default: return "keep R K S";
            }
        }

        /** The greatest number that may stand for the letter, or NONE if the sign stands for itself. */
        private static int topOf(char sign) {
            switch (sign) {
                case 'R': return ROOMS - 1;
                case 'S': return SUPPLIES - 1;
                case 'L': return TOP_LEVEL;
                case 'W': return TOP_LIFT;
                case 'V': return 1;
                case 'N': return NETS - 1;
                case 'K': return TOP_REGISTERS;
                default: return NONE;
            }
        }

        /** How many codes of the tape a line of the form can begin with. */
        private int match(Codes tape, String form) {
            int reached = 0;
            int found = 0;
            for (int i = 0; i < form.length(); i++) {
                char sign = form.charAt(i);
                int top = topOf(sign);
                int length = top == NONE ? (tape.at(reached) == sign ? 1 : 0) : readNumber(tape, reached, top);
                if (length == 0) {
                    return reached;
                }
                if (top != NONE) {
                    numbers.put(found, value);
                    found++;
                }
                reached += length;
            }
            whole = reached == tape.count;
            return reached;
        }

        /** How many digits the number has; a digit that makes it too great is left unread. */
        private int readNumber(Codes tape, int start, int top) {
            int first = digit(tape.at(start));
            int second = digit(tape.at(start + 1));
            if (first == NONE || first > top) {
                return 0;
            }
            if (second == NONE || first * 10 + second > top) {
                value = first;
                return 1;
            }
            value = first * 10 + second;
            return 2;
        }

        private static int digit(int code) {
            return code >= '0' && code <= '9' ? code - '0' : NONE;
        }
    }
}
