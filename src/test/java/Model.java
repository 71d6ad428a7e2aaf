import java.util.ArrayList;
import java.util.HashMap;
import java.util.HashSet;
import java.util.List;
import java.util.Map;
import java.util.Set;
import java.util.TreeSet;
import java.util.function.IntPredicate;

/**
 * The document once more, in the plainest way and by other means than the class: ways and strides by
 * trying all sequences, lines by a list of all texts that are lines.
 */
final class Model {
    private static final int UNKNOWN = -1, OUTSIDE = -2, STATE = -3, FULL = -4, NONE = -9;

    private static final class Net {
        int from, to, value, supply, lift;
        boolean guarded;
    }

    private static final Map<String, int[]> LINES = new HashMap<>();
    private static final Set<String> BEGINNINGS = new HashSet<>();

    static {
        addLines("room", 0, 5, 3);
        addLines("near", 1, 5, 5, 1);
        addLines("net", 2, 5, 5);
        addLines("scene", 3, 3, 3, 3, 3);
        addLines("guard", 4, 15, 1, 3);
        addLines("lift", 5, 15, 3);
        addLines("keep", 6, 5, 9, 3);
    }

    private int[] feeder = new int[6], registers = new int[6], keeper = new int[6];
    private Set<List<Integer>> pairs = new HashSet<>();
    private List<int[]> scenes = new ArrayList<>();
    private List<Net> nets = new ArrayList<>();
    private List<int[]> script = new ArrayList<>();
    private StringBuilder tape = new StringBuilder();

    private static void addLines(String word, int number, int... tops) {
        extend(word, new int[] {number}, tops);
    }

    private static void extend(String text, int[] values, int[] tops) {
        int done = values.length - 1;
        if (done == tops.length) {
            LINES.put(text, values);
            for (int i = 0; i <= text.length(); i++) {
                BEGINNINGS.add(text.substring(0, i));
            }
            return;
        }
        for (int v = 0; v <= tops[done]; v++) {
            int[] more = java.util.Arrays.copyOf(values, values.length + 1);
            more[done + 1] = v;
            extend(text + " " + v, more, tops);
            if (v < 10) {
                extend(text + " 0" + v, more, tops);
            }
        }
    }

    private static boolean in(int low, int value, int high) {
        return low <= value && value <= high;
    }

    private boolean noRoom(int r) {
        return !in(0, r, 5);
    }

    private boolean noSupply(int s) {
        return !in(0, s, 3);
    }

    private boolean noNet(int n) {
        return !in(0, n, nets.size() - 1);
    }

    private boolean noScene(int c) {
        return !in(0, c, scenes.size() - 1);
    }

    private static int set(int size, IntPredicate member) {
        int bits = 0;
        for (int i = 0; i < size; i++) {
            if (member.test(i)) {
                bits += (int) Math.pow(2, i);
            }
        }
        return bits;
    }

    int room(int r, int s) {
        if (noRoom(r) || noSupply(s)) return UNKNOWN;
        int old = feeder[r];
        feeder[r] = s;
        return old;
    }

    int near(int a, int b, int v) {
        if (noRoom(a) || noRoom(b)) return UNKNOWN;
        if (!in(0, v, 1)) return OUTSIDE;
        if (a == b) return STATE;
        int old = pairs.contains(List.of(a, b)) ? 1 : 0;
        if (v == 1) {
            pairs.add(List.of(a, b));
            pairs.add(List.of(b, a));
        } else {
            pairs.remove(List.of(a, b));
            pairs.remove(List.of(b, a));
        }
        return old;
    }

    int net(int a, int b) {
        if (noRoom(a) || noRoom(b)) return UNKNOWN;
        if (a == b) return STATE;
        if (nets.size() == 16) return FULL;
        Net net = new Net();
        net.from = a;
        net.to = b;
        nets.add(net);
        return nets.size() - 1;
    }

    int scene(int l0, int l1, int l2, int l3) {
        int[] levels = {l0, l1, l2, l3};
        for (int level : levels) {
            if (!in(0, level, 3)) return OUTSIDE;
        }
        if (l0 == 0 || find(levels) >= 0) return STATE;
        if (scenes.size() == 8) return FULL;
        scenes.add(levels);
        return scenes.size() - 1;
    }

    private int find(int[] levels) {
        for (int c = 0; c < scenes.size(); c++) {
            if (java.util.Arrays.equals(scenes.get(c), levels)) return c;
        }
        return -1;
    }

    int guard(int n, int v, int s) {
        if (noNet(n) || noSupply(s)) return UNKNOWN;
        if (!in(0, v, 1)) return OUTSIDE;
        nets.get(n).guarded = true;
        nets.get(n).value = v;
        nets.get(n).supply = s;
        return 1;
    }

    int open(int n) {
        if (noNet(n)) return UNKNOWN;
        int old = nets.get(n).guarded ? 1 : 0;
        nets.get(n).guarded = false;
        return old;
    }

    int lift(int n, int w) {
        if (noNet(n)) return UNKNOWN;
        if (!in(0, w, 3)) return OUTSIDE;
        int old = nets.get(n).lift;
        nets.get(n).lift = w;
        return old;
    }

    int keep(int r, int k, int s) {
        if (noRoom(r) || noSupply(s)) return UNKNOWN;
        if (!in(0, k, 9)) return OUTSIDE;
        int old = registers[r];
        registers[r] = k;
        keeper[r] = s;
        return old;
    }

    int anew() {
        int old = nets.size();
        Model other = new Model();
        feeder = other.feeder;
        registers = other.registers;
        keeper = other.keeper;
        pairs = other.pairs;
        scenes = other.scenes;
        nets = other.nets;
        script = other.script;
        return old;
    }

    int ofRoom(int r, int what) {
        if (noRoom(r)) return UNKNOWN;
        if (what == 0) return feeder[r];
        if (what == 1) return registers[r];
        if (what == 2) return keeper[r];
        if (what == 3) return set(6, o -> pairs.contains(List.of(r, o)));
        if (what == 4) return set(scenes.size(), c -> scenes.get(c)[feeder[r]] > 0);
        if (what == 5) return set(scenes.size(), c -> scenes.get(c)[feeder[r]] == 0 && scenes.get(c)[keeper[r]] > 0);
        return OUTSIDE;
    }

    int levelIn(int scene, int s) {
        return noScene(scene) || noSupply(s) ? UNKNOWN : scenes.get(scene)[s];
    }

    private boolean anyScene(Net net, java.util.function.IntBinaryOperator test) {
        for (int[] levels : scenes) {
            if (test.applyAsInt(levels[feeder[net.from]], levels[feeder[net.to]]) == 1) return true;
        }
        return false;
    }

    private int needsGuard(Net net) {
        return anyScene(net, (a, b) -> a == 0 && b > 0 ? 1 : 0) ? 1 : 0;
    }

    private int neededLift(Net net) {
        int up = anyScene(net, (a, b) -> 0 < a && a < b ? 1 : 0) ? 1 : 0;
        int down = anyScene(net, (a, b) -> a > b && b > 0 ? 1 : 0) ? 2 : 0;
        return up + down;
    }

    private int feed(Net net) {
        for (int s = 0; s < 4; s++) {
            boolean fits = true;
            for (int[] levels : scenes) {
                int b = levels[feeder[net.to]];
                fits &= b == 0 || levels[s] == b;
            }
            if (fits) return s;
        }
        throw new IllegalStateException("a net without feed");
    }

    private int useless(Net net) {
        int sum = 0;
        if (net.guarded && needsGuard(net) == 0) sum += 1;
        if ((net.lift == 1 || net.lift == 3) && neededLift(net) % 2 == 0) sum += 2;
        if ((net.lift == 2 || net.lift == 3) && neededLift(net) < 2) sum += 4;
        return sum;
    }

    private int faultOf(Net net, int[] levels) {
        int a = levels[feeder[net.from]];
        int b = levels[feeder[net.to]];
        if (b == 0) return 0;
        if (a == 0 && (!net.guarded || levels[net.supply] == 0)) return 1;
        if (a == 0 && levels[net.supply] != b) return 2;
        if (a > 0 && a < b && (net.lift == 0 || net.lift == 2)) return 3;
        if (a > b && (net.lift == 0 || net.lift == 1)) return 4;
        return 0;
    }

    int ofNet(int n, int what) {
        if (noNet(n)) return UNKNOWN;
        Net net = nets.get(n);
        if (what == 0) return net.from;
        if (what == 1) return net.to;
        if (what == 2) return net.guarded ? net.value : NONE;
        if (what == 3) return net.guarded ? net.supply : NONE;
        if (what == 4) return net.lift;
        if (what == 5) return needsGuard(net);
        if (what == 6) return neededLift(net);
        if (what == 7) return feed(net);
        if (what == 8) return useless(net);
        if (what == 9) return set(scenes.size(), c -> faultOf(net, scenes.get(c)) != 0);
        return OUTSIDE;
    }

    int fault(int n, int scene) {
        return noNet(n) || noScene(scene) ? UNKNOWN : faultOf(nets.get(n), scenes.get(scene));
    }

    int faults(int f) {
        if (!in(1, f, 4)) return OUTSIDE;
        return (int) nets.stream().flatMap(net -> scenes.stream().filter(c -> faultOf(net, c) == f)).count();
    }

    int mend() {
        int changed = 0;
        for (Net net : nets) {
            String before = net.guarded + "," + (net.guarded ? net.value + "," + net.supply : "") + "," + net.lift;
            if (needsGuard(net) == 1) {
                net.value = net.guarded ? net.value : 0;
                net.guarded = true;
                net.supply = feed(net);
            } else {
                net.guarded = false;
            }
            net.lift = neededLift(net);
            String after = net.guarded + "," + (net.guarded ? net.value + "," + net.supply : "") + "," + net.lift;
            if (!before.equals(after)) changed++;
        }
        return changed;
    }

    /** All sequences of different places from the one to the other are tried, in lexicographic order. */
    private static List<Integer> best(List<Integer> begun, int to, int size, java.util.function.BiPredicate<Integer, Integer> goes) {
        int last = begun.get(begun.size() - 1);
        if (last == to) return new ArrayList<>(begun);
        List<Integer> best = null;
        for (int next = 0; next < size; next++) {
            if (begun.contains(next) || !goes.test(last, next)) continue;
            begun.add(next);
            List<Integer> found = best(begun, to, size, goes);
            begun.remove(begun.size() - 1);
            if (found != null && (best == null || found.size() < best.size())) best = found;
        }
        return best;
    }

    private static List<Integer> from(int first) {
        List<Integer> begun = new ArrayList<>();
        begun.add(first);
        return begun;
    }

    private static int answer(List<Integer> sequence, int k) {
        if (sequence == null) return NONE;
        if (k == NONE) return sequence.size();
        return k < sequence.size() ? sequence.get(k) : NONE;
    }

    int way(int a, int b, int k) {
        if (noRoom(a) || noRoom(b)) return UNKNOWN;
        if (k != NONE && !in(0, k, 5)) return OUTSIDE;
        if (a == b) return STATE;
        return answer(best(from(a), b, 6, (p, q) -> pairs.contains(List.of(p, q)) && (q == b || onWith(q, b))), k);
    }

    private boolean onWith(int r, int b) {
        return scenes.stream().allMatch(levels -> levels[feeder[b]] == 0 || levels[feeder[r]] > 0);
    }

    int step(int kind, int x, int y) {
        if (!in(0, kind, 4)) return OUTSIDE;
        int[] tops = {15, 15, 5, 5, 3};
        if (!in(0, x, tops[kind]) || kind == 4 && !in(0, y, 3)) return OUTSIDE;
        if (script.size() == 40) return FULL;
        script.add(new int[] {kind, x, kind == 4 ? y : 0});
        return script.size();
    }

    int wipe() {
        int old = script.size();
        script.clear();
        return old;
    }

    int stepAt(int k, int what) {
        if (!in(0, k, script.size() - 1)) return UNKNOWN;
        return in(0, what, 2) ? script.get(k)[what] : OUTSIDE;
    }

    /** A state of judging. */
    private final class Stage {
        final int[] now;
        final Set<Integer> held = new TreeSet<>(), ready = new TreeSet<>(), saved = new TreeSet<>();

        Stage(int scene) {
            now = scenes.get(scene).clone();
            for (int n = 0; n < nets.size(); n++) {
                if (nets.get(n).guarded && !on(nets.get(n).from)) held.add(n);
            }
            for (int r = 0; r < 6; r++) {
                if (on(r)) ready.add(r);
                if (!on(r) && registers[r] > 0 && now[keeper[r]] > 0) saved.add(r);
            }
        }

        boolean on(int r) {
            return now[feeder[r]] > 0;
        }

        int refusal(int[] step) {
            int x = step[1];
            if (step[0] <= 1 && (x >= nets.size() || !nets.get(x).guarded)) return 1;
            if (step[0] == 2 && (!on(x) || !ready.contains(x) || registers[x] == 0 || now[keeper[x]] == 0)) return 2;
            if (step[0] == 3 && (!on(x) || !saved.contains(x))) return 3;
            int[] then = now.clone();
            if (step[0] == 4) then[x] = step[2];
            if (step[0] == 4 && find(then) < 0) return 4;
            return 0;
        }

        void act(int[] step) {
            int x = step[1];
            if (step[0] == 0) held.add(x);
            if (step[0] == 1) held.remove(x);
            if (step[0] == 2) saved.add(x);
            if (step[0] == 3) ready.add(x);
            if (step[0] != 4) return;
            int before = now[x];
            now[x] = step[2];
            if (now[x] == 0) {
                ready.removeIf(r -> feeder[r] == x);
                saved.removeIf(r -> keeper[r] == x);
            }
            if (before == 0 && now[x] != 0) {
                for (int r = 0; r < 6; r++) {
                    if (feeder[r] == x && registers[r] == 0) ready.add(r);
                }
            }
        }

        int firstNet(IntPredicate applies) {
            for (int n = 0; n < nets.size(); n++) {
                if (on(nets.get(n).to) && applies.test(n)) return n;
            }
            return NONE;
        }

        int netOfFive() {
            return firstNet(n -> !on(nets.get(n).from)
                && (!held.contains(n) || nets.get(n).guarded && now[nets.get(n).supply] == 0));
        }

        int netOfSix() {
            return firstNet(n -> on(nets.get(n).from) && !ready.contains(nets.get(n).from) && !held.contains(n));
        }
    }

    int judge(int scene, int what) {
        if (noScene(scene)) return UNKNOWN;
        if (!in(0, what, 6)) return OUTSIDE;
        Stage stage = new Stage(scene);
        int bad = NONE, reason = NONE, net = NONE;
        for (int k = 0; k < script.size() && bad == NONE; k++) {
            int refusal = stage.refusal(script.get(k));
            if (refusal != 0) {
                bad = k;
                reason = refusal;
                break;
            }
            stage.act(script.get(k));
            if (stage.netOfFive() != NONE) {
                bad = k;
                reason = 5;
                net = stage.netOfFive();
            } else if (stage.netOfSix() != NONE) {
                bad = k;
                reason = 6;
                net = stage.netOfSix();
            }
        }
        if (what == 0) return bad;
        if (what == 1) return reason;
        if (what == 2) return net;
        if (what == 3) return find(stage.now);
        if (what == 4) return set(6, stage.ready::contains);
        if (what == 5) return set(6, stage.saved::contains);
        return set(16, stage.held::contains);
    }

    private int differing(int p, int q) {
        int count = 0;
        for (int s = 0; s < 4; s++) {
            if (scenes.get(p)[s] != scenes.get(q)[s]) count++;
        }
        return count;
    }

    private List<Integer> strides(int p, int q) {
        return best(from(p), q, scenes.size(), (a, b) -> differing(a, b) == 1);
    }

    int stride(int p, int q, int k) {
        if (noScene(p) || noScene(q)) return UNKNOWN;
        if (k != NONE && !in(0, k, 7)) return OUTSIDE;
        return answer(strides(p, q), k);
    }

    int plan(int p, int q) {
        if (noScene(p) || noScene(q)) return UNKNOWN;
        List<Integer> strides = strides(p, q);
        if (strides == null) return STATE;
        Stage stage = new Stage(p);
        List<int[]> steps = new ArrayList<>();
        for (int i = 1; i < strides.size(); i++) {
            planStride(scenes.get(strides.get(i - 1)), scenes.get(strides.get(i)), stage, steps);
        }
        if (steps.size() > 40) return FULL;
        script = steps;
        return steps.size();
    }

    private void planStride(int[] a, int[] b, Stage stage, List<int[]> steps) {
        int s = 0;
        while (a[s] == b[s]) s++;
        int supply = s;
        if (b[s] == 0) {
            for (int n = 0; n < nets.size(); n++) {
                Net net = nets.get(n);
                if (net.guarded && !stage.held.contains(n) && feeder[net.from] == supply && b[feeder[net.to]] > 0) {
                    put(stage, steps, 0, n, 0);
                }
            }
            for (int r = 0; r < 6; r++) {
                if (feeder[r] == supply && stage.ready.contains(r) && registers[r] > 0 && b[keeper[r]] > 0) {
                    put(stage, steps, 2, r, 0);
                }
            }
        }
        put(stage, steps, 4, supply, b[supply]);
        if (a[s] == 0) {
            for (int r = 0; r < 6; r++) {
                if (feeder[r] == supply && registers[r] > 0 && stage.saved.contains(r)) put(stage, steps, 3, r, 0);
            }
            for (int n = 0; n < nets.size(); n++) {
                if (stage.held.contains(n) && feeder[nets.get(n).from] == supply) put(stage, steps, 1, n, 0);
            }
        }
    }

    private void put(Stage stage, List<int[]> steps, int kind, int x, int y) {
        steps.add(new int[] {kind, x, y});
        stage.act(new int[] {kind, x, y});
    }

    int key(int code) {
        if (!in(0, code, 127)) return OUTSIDE;
        if (tape.length() == 24) return FULL;
        tape.append((char) code);
        return tape.length();
    }

    int blank() {
        int old = tape.length();
        tape = new StringBuilder();
        return old;
    }

    int line() {
        String text = tape.toString();
        int[] found = LINES.get(text);
        if (found == null) {
            for (int i = 0; i < text.length(); i++) {
                if (!BEGINNINGS.contains(text.substring(0, i + 1))) return -100 - i;
            }
            return -100 - text.length();
        }
        tape = new StringBuilder();
        switch (found[0]) {
            case 0: return 1000 + room(found[1], found[2]);
            case 1: return 1000 + near(found[1], found[2], found[3]);
            case 2: return 1000 + net(found[1], found[2]);
            case 3: return 1000 + scene(found[1], found[2], found[3], found[4]);
            case 4: return 1000 + guard(found[1], found[2], found[3]);
            case 5: return 1000 + lift(found[1], found[2]);
            default: return 1000 + keep(found[1], found[2], found[3]);
        }
    }

    int text(int n, int i) {
        if (noNet(n)) return UNKNOWN;
        if (!in(-1, i, 39)) return OUTSIDE;
        Net net = nets.get(n);
        String text = "abcdef".charAt(net.from) + ">" + "abcdef".charAt(net.to) + " "
            + (net.guarded ? "g" + net.value + net.supply : "-") + " " + new String[] {"none", "up", "down", "both"}[net.lift] + " ";
        for (int[] levels : scenes) {
            text += faultOf(net, levels);
        }
        if (i == -1) return text.length();
        return i < text.length() ? text.charAt(i) : NONE;
    }

    int many(int what) {
        if (what == 0) return scenes.size();
        if (what == 1) return nets.size();
        if (what == 2) return (int) nets.stream().filter(net -> net.guarded).count();
        if (what == 3) return script.size();
        if (what == 4) return tape.length();
        if (what == 5) return (int) nets.stream().filter(net -> scenes.stream().anyMatch(c -> faultOf(net, c) != 0)).count();
        if (what == 6) return (int) nets.stream().filter(net -> useless(net) != 0).count();
        return OUTSIDE;
    }
}
