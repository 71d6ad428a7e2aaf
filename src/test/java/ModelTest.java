import java.lang.reflect.Method;
import java.util.HashMap;
import java.util.List;
import java.util.Map;
import java.util.Random;

/** Runs of 512 calls that are drawn by lot (always the same ones), answered by the class and by the model. */
public final class ModelTest {
    private static final int RUNS = 1500, CALLS_OF_A_RUN = 512;
    private static final int[] STRANGE = {-1, -2, -9, -8, -10, 6, 7, 8, 9, 10, 16, 40, 41, Integer.MAX_VALUE, Integer.MIN_VALUE};
    private static final String[] BUILDERS = {"room", "near", "near", "net", "scene", "guard", "guard", "lift", "keep"};
    private static final String[] QUERIES = {"ofRoom", "levelIn", "ofNet", "fault", "faults", "way", "way", "stepAt", "judge",
        "judge", "judge", "stride", "stride", "text", "many"};
    private static final List<String> WORDS = List.of("room", "near", "net", "scene", "guard", "lift", "keep");
    private static final int[] NUMBERS_OF_WORD = {2, 3, 2, 4, 3, 2, 3};

    private final Calls calls = new Calls("ModelTest");
    private final Random lot = new Random(20261118);
    private final Map<String, Method> methods = new HashMap<>();
    private final Map<String, Integer> answered = new HashMap<>();
    private SleepingRooms x;
    private Model model;
    private int left;

    public static void main(String[] args) {
        new ModelTest().run();
    }

    private void run() {
        for (Method m : Model.class.getDeclaredMethods()) {
            methods.put(m.getName(), m);
        }
        for (int i = 0; i < RUNS; i++) {
            x = new SleepingRooms();
            model = new Model();
            left = CALLS_OF_A_RUN;
            if (i % 3 == 0) {
                chainRun(i);
            } else {
                oneRun(i);
            }
        }
        lotReachesRareAnswers();
        calls.end();
    }

    private void oneRun(int run) {
        int building = lot.nextInt(150);
        while (left > 0) {
            int kind = lot.nextInt(100);
            if (left > CALLS_OF_A_RUN - building && kind < 80 || kind < 12) {
                call(run, BUILDERS[lot.nextInt(BUILDERS.length)]);
            } else if (kind < 22) {
                typeLine(run);
            } else if (kind < 36) {
                call(run, "step");
            } else if (kind < 45) {
                call(run, "plan");
                call(run, "judge");
            } else if (kind < 48) {
                call(run, lot.nextInt(8) > 0 ? "open" : lot.nextInt(4) > 0 ? "mend" : "anew");
            } else if (kind < 50) {
                call(run, "wipe");
            } else {
                call(run, QUERIES[lot.nextInt(QUERIES.length)]);
            }
        }
    }

    /** Scenes that lie one supply apart and guarded nets, so that scripts and plans become long. */
    private void buildChain(int run) {
        for (int r = 0; r < 6; r++) {
            answer(run, "room", r, lot.nextInt(lot.nextInt(3) == 0 ? 4 : 2));
            answer(run, "keep", r, lot.nextInt(3), lot.nextInt(4));
        }
        chainScenes(run, lot.nextBoolean());
        int wanted = lot.nextInt(24);
        int source = lot.nextInt(6);
        boolean oneSource = lot.nextInt(3) == 0;
        if (oneSource) {
            answer(run, "room", source, 1);
        }
        for (int n = 0; n < wanted; n++) {
            int a = oneSource ? source : lot.nextInt(6);
            answer(run, "net", a, (a + 1 + lot.nextInt(5)) % 6);
            answer(run, "guard", n, lot.nextInt(2), lot.nextInt(lot.nextInt(4) == 0 ? 4 : 1));
        }
    }

    private void chainRun(int run) {
        buildChain(run);
        if (lot.nextBoolean()) {
            call(run, "anew");
            buildChain(run);
        }
        while (left > 0) {
            if (lot.nextInt(3) == 0) {
                answer(run, "wipe");
            } else {
                boolean fromFirst = lot.nextInt(4) == 0;
                answer(run, "plan", fromFirst ? 0 : lot.nextInt(model.many(0)), fromFirst ? model.many(0) - 1 : lot.nextInt(model.many(0)));
            }
            appendSteps(run);
            int scene = lot.nextInt(model.many(0));
            for (int what = 0; what < 7; what++) {
                answer(run, "judge", scene, what);
            }
            for (int what = 0; what < 3 && model.many(3) > 0; what++) {
                answer(run, "stepAt", lot.nextInt(model.many(3)), what);
            }
        }
    }

    /** Each scene lies one supply from another one, in a long chain only from the one before it. */
    private void chainScenes(int run, boolean longChain) {
        answer(run, "scene", 1 + lot.nextInt(2), lot.nextInt(3), lot.nextInt(2), lot.nextInt(2));
        for (int i = 0; i < 60; i++) {
            int last = model.many(0) - 1;
            int base = longChain || lot.nextBoolean() ? last : lot.nextInt(last + 1);
            int changed = lot.nextBoolean() ? 1 : lot.nextInt(4);
            Object[] levels = new Object[4];
            for (int s = 0; s < 4; s++) {
                levels[s] = s == changed ? Math.max(0, lot.nextInt(6) - 2) : model.levelIn(base, s);
            }
            boolean apart = true;
            for (int c = 0; c < last; c++) {
                int differing = 0;
                for (int s = 0; s < 4; s++) {
                    differing += levels[s].equals(model.levelIn(c, s)) ? 0 : 1;
                }
                apart &= differing > 1;
            }
            if ((apart || !longChain) && last < 7) {
                answer(run, "scene", levels);
            }
        }
    }

    private void appendSteps(int run) {
        int more = lot.nextInt(lot.nextInt(4) == 0 ? 45 : 8);
        for (int i = 0; i < more; i++) {
            int scene = lot.nextInt(model.many(0));
            int supply = lot.nextInt(4);
            switch (lot.nextInt(5)) {
                case 0: answer(run, "step", 4, supply, model.levelIn(scene, supply)); break;
                case 1: answer(run, "step", lot.nextInt(2), lot.nextInt(Math.max(1, model.many(1))), 0); break;
                case 2: answer(run, "step", 2, lot.nextInt(6), 0); break;
                case 3: answer(run, "step", 3, lot.nextInt(6), 0); break;
                default: answer(run, "step", 0, lot.nextInt(Math.max(1, model.many(1))), 0); break;
            }
        }
    }

    private void typeLine(int run) {
        if (lot.nextInt(8) > 0) {
            call(run, "blank");
        }
        for (char code : someLine().toCharArray()) {
            answer(run, "key", (int) code);
        }
        call(run, "line");
    }

    private String someLine() {
        int word = lot.nextInt(WORDS.size());
        StringBuilder text = new StringBuilder(WORDS.get(word));
        for (int i = 0; i < NUMBERS_OF_WORD[word]; i++) {
            text.append(' ').append(lot.nextInt(6) == 0 ? "0" : "").append(lot.nextInt(lot.nextInt(5) == 0 ? 20 : 4));
        }
        if (lot.nextInt(2) == 0) {
            int place = lot.nextInt(text.length());
            switch (lot.nextInt(4)) {
                case 0: text.deleteCharAt(place); break;
                case 1: text.setLength(place); break;
                case 2: text.insert(place, " 0123456789abcdefghijklmnopqrstuvwxyz/:".charAt(lot.nextInt(39))); break;
                default: text.setCharAt(place, (char) lot.nextInt(129)); break;
            }
        }
        return text.toString();
    }

    private void call(int run, String name) {
        Class<?>[] types = methods.get(name).getParameterTypes();
        Object[] arguments = new Object[types.length];
        for (int i = 0; i < types.length; i++) {
            arguments[i] = argument(name, i);
        }
        answer(run, name, arguments);
    }

    /** Mostly numbers that are small enough to be taken, now and then one at an edge or far outside. */
    private int argument(String name, int i) {
        if (lot.nextInt(40) == 0) {
            return STRANGE[lot.nextInt(STRANGE.length)];
        }
        boolean index = i == 2 && (name.equals("way") || name.equals("stride"));
        if (index && lot.nextBoolean()) {
            return SleepingRooms.NONE;
        }
        switch (name + i) {
            case "net0": case "net1": case "room0": case "keep0": case "near0": case "near1": case "ofRoom0": case "ofRoom1":
            case "way0": case "way1": case "way2": return lot.nextInt(6);
            case "near2": case "guard1": return lot.nextInt(5) > 0 ? 1 : 0;
            case "guard0": case "lift0": case "open0": case "ofNet0": case "fault0": case "text0": return lot.nextInt(lot.nextInt(4) == 0 ? 16 : 5);
            case "scene0": return lot.nextInt(12) == 0 ? 0 : 1 + lot.nextInt(lot.nextInt(3) == 0 ? 3 : 1);
            case "scene1": case "scene2": case "scene3": return Math.max(0, lot.nextInt(6) - 2);
            case "keep1": return lot.nextInt(3);
            case "ofNet1": return lot.nextInt(10);
            case "text1": return lot.nextInt(24) - 1;
            case "judge1": return lot.nextInt(7);
            case "stepAt0": return lot.nextInt(8);
            case "step0": return lot.nextInt(5);
            case "step1": return lot.nextInt(4);
            case "key0": return lot.nextInt(128);
            case "stride2": case "many0": return lot.nextInt(8);
            case "judge0": case "plan0": case "plan1": case "stride0": case "stride1": case "levelIn0": case "fault1":
                return lot.nextInt(Math.max(1, model.many(0)));
            default: return lot.nextInt(4);
        }
    }

    private void answer(int run, String name, Object... arguments) {
        if (left-- <= 0) {
            return;
        }
        int got = Calls.ask(x, name, arguments);
        int want = Calls.ask(model, name, arguments);
        calls.due("run " + run, name + List.of(arguments), got, want);
        answered.merge(name + (name.equals("judge") ? arguments[1] : "") + ":" + want, 1, Integer::sum);
    }

    /** The lot is worth something only if it reaches the rare answers too. */
    private void lotReachesRareAnswers() {
        String[] rare = {"plan:-4", "plan:-3", "judge1:1", "judge1:2", "judge1:3", "judge1:4", "judge1:5", "judge1:6",
            "judge1:-9", "way:-3", "way:-9", "stride:-9", "step:-4", "net:-4", "scene:-4", "key:-4", "line:997", "line:1001"};
        for (String answer : rare) {
            calls.holds("the lot reaches " + answer, answered.getOrDefault(answer, 0) > 0);
        }
        if (Boolean.getBoolean("tell")) {
            answered.forEach((answer, count) -> System.out.println(answer + " " + count));
        }
    }
}
