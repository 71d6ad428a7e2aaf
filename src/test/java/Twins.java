import java.util.ArrayList;
import java.util.Arrays;
import java.util.List;
import java.util.Set;

/**
 * "A call that returns an error changes nothing": compares an object that has got all calls of a run with one that
 * has not got those that were refused, nor those that only ask.
 */
final class Twins {
    private static final int LOOKS = 4;

    private static final Set<String> QUERIES = Set.of("ofRoom", "levelIn", "ofNet", "fault", "faults", "way", "stepAt",
        "judge", "stride", "text", "many");

    /** The most that one look asks: an object answers 512 calls. */
    static final int COST_OF_A_LOOK = 130;

    private Twins() {
    }

    static void compare(Calls calls, String name, List<Calls.Call> run) {
        for (int look = 0; look < LOOKS; look++) {
            List<Integer> got = seen(made(run, false), look);
            List<Integer> want = seen(made(run, true), look);
            calls.holds(name + ": refused calls and queries change nothing; seen (" + look + ") " + got
                + " instead of " + want, got.equals(want));
        }
    }

    private static SleepingRooms made(List<Calls.Call> run, boolean withoutRefused) {
        SleepingRooms x = new SleepingRooms();
        for (Calls.Call call : run) {
            if (!withoutRefused || mayChange(call)) {
                call.made(x);
            } else if (call.isTyped()) {
                Calls.type(x, call.due <= -100 ? call.line : "");
            }
        }
        return x;
    }

    private static boolean mayChange(Calls.Call call) {
        if (call.isTyped()) {
            return call.due >= 1000;
        }
        return call.due >= 0 && !QUERIES.contains(call.method);
    }

    private static List<Integer> seen(SleepingRooms x, int look) {
        List<Integer> answers = new ArrayList<>();
        if (look == 3) {
            answers.add(x.line());
        }
        for (int what = 0; what < 7; what++) {
            answers.add(x.many(what));
        }
        if (look == 0 || look == 3) {
            seeRoomsAndScenes(x, answers);
        } else if (look == 1) {
            seeNets(x, answers);
        } else {
            seeSteps(x, answers);
        }
        return answers;
    }

    private static void seeRoomsAndScenes(SleepingRooms x, List<Integer> answers) {
        for (int r = 0; r < 6; r++) {
            answers.addAll(Arrays.asList(x.ofRoom(r, 0), x.ofRoom(r, 1), x.ofRoom(r, 2), x.ofRoom(r, 3)));
        }
        for (int c = 0; c < 8; c++) {
            answers.addAll(Arrays.asList(x.levelIn(c, 0), x.levelIn(c, 1), x.levelIn(c, 2), x.levelIn(c, 3)));
        }
    }

    private static void seeNets(SleepingRooms x, List<Integer> answers) {
        for (int n = 0; n < 16; n++) {
            answers.addAll(Arrays.asList(x.ofNet(n, 0), x.ofNet(n, 1), x.ofNet(n, 2), x.ofNet(n, 3), x.ofNet(n, 4)));
        }
    }

    private static void seeSteps(SleepingRooms x, List<Integer> answers) {
        for (int k = 0; k < 40; k++) {
            answers.addAll(Arrays.asList(x.stepAt(k, 0), x.stepAt(k, 1), x.stepAt(k, 2)));
        }
    }
}
