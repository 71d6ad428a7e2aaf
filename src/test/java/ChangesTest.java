import java.util.ArrayList;
import java.util.LinkedHashMap;
import java.util.List;
import java.util.Map;

/** Each call, on a chip that has something of everything, changes what its promise tells, and nothing else. */
public final class ChangesTest {
    private static final Calls CALLS = new Calls("ChangesTest");

    private static final String CHIP = "room(1, 1) = 0; room(2, 2) = 0; room(3, 1) = 0; room(4, 3) = 0; room(5, 2) = 0;"
        + "near(0, 1, 1) = 0; near(1, 2, 1) = 0; near(2, 3, 1) = 0; near(0, 4, 1) = 0; near(4, 5, 1) = 0;"
        + "keep(0, 1, 3) = 0; keep(1, 4, 2) = 0; keep(2, 9, 1) = 0; keep(3, 2, 2) = 0; keep(4, 3, 1) = 0; keep(5, 7, 3) = 0;"
        + "scene(1, 0, 0, 1) = 0; scene(1, 2, 0, 1) = 1; scene(1, 2, 3, 1) = 2; scene(3, 2, 3, 1) = 3; scene(2, 1, 1, 3) = 4;"
        + "net(1, 0) = 0; net(0, 2) = 1; net(3, 4) = 2; net(2, 5) = 3; net(4, 1) = 4; net(5, 3) = 5;"
        + "guard(0, 1, 3) = 1; guard(2, 1, 1) = 1; guard(3, 0, 2) = 1; guard(5, 1, 2) = 1;"
        + "lift(0, 2) = 0; lift(1, 3) = 0; lift(2, 1) = 0; lift(3, 1) = 0; lift(5, 2) = 0;"
        + "step(0, 0, 0) = 1; step(2, 1, 0) = 2; step(4, 1, 2) = 3; step(4, 2, 3) = 4; step(3, 5, 0) = 5; step(1, 3, 0) = 6;";

    private static final String TAPE = "keep 3 7 2";

    public static void main(String[] args) {
        building();
        nets();
        anew();
        scripts();
        texts();
        queries();
        refused();
        CALLS.end();
    }

    private static void building() {
        changes(2, "room(3, 2) = 1", "ofRoom(3, 0) = 2");
        changes(3, "near(0, 1, 0) = 1", "ofRoom(0, 3) = 16", "ofRoom(1, 3) = 4");
        changes(3, "near(3, 5, 1) = 0", "ofRoom(3, 3) = 36", "ofRoom(5, 3) = 24");
        changes(3, "near(5, 4, 1) = 1");
        changes(4, "net(3, 0) = 6", "many(1) = 7", "ofNet(6, 0) = 3", "ofNet(6, 1) = 0", "ofNet(6, 2) = NONE",
            "ofNet(6, 3) = NONE", "ofNet(6, 4) = 0");
        changes(5, "scene(3, 3, 3, 3) = 5", "many(0) = 6", "levelIn(5, 0) = 3", "levelIn(5, 1) = 3", "levelIn(5, 2) = 3",
            "levelIn(5, 3) = 3");
        changes(9, "keep(2, 5, 3) = 9", "ofRoom(2, 1) = 5", "ofRoom(2, 2) = 3");
        changes(9, "keep(3, 8, 0) = 2", "ofRoom(3, 1) = 8", "ofRoom(3, 2) = 0", "line() = 1008");
    }

    private static void nets() {
        changes(6, "guard(1, 1, 3) = 1", "many(2) = 5", "ofNet(1, 2) = 1", "ofNet(1, 3) = 3");
        changes(6, "guard(0, 0, 1) = 1", "ofNet(0, 2) = 0", "ofNet(0, 3) = 1");
        changes(7, "open(2) = 1", "many(2) = 3", "ofNet(2, 2) = NONE", "ofNet(2, 3) = NONE");
        changes(7, "open(1) = 0");
        changes(8, "lift(3, 2) = 1", "ofNet(3, 4) = 2");
        changes(16, "mend() = 5", "many(2) = 3", "ofNet(0, 3) = 0", "ofNet(0, 4) = 3", "ofNet(2, 3) = 3", "ofNet(2, 4) = 3",
            "ofNet(3, 2) = NONE", "ofNet(3, 3) = NONE", "ofNet(3, 4) = 0", "ofNet(4, 4) = 3", "ofNet(5, 3) = 1");
    }

    private static void anew() {
        SleepingRooms fresh = new SleepingRooms();
        Calls.type(fresh, TAPE);
        SleepingRooms used = chip();
        CALLS.on(used, "promise 10", "anew() = 6");
        compare("promise 10, anew", seen(used), seen(fresh));
    }

    private static void scripts() {
        changes(18, "step(4, 3, 1) = 7", "many(3) = 7", "stepAt(6, 0) = 4", "stepAt(6, 1) = 3", "stepAt(6, 2) = 1");
        List<String> noSteps = new ArrayList<>(List.of("many(3) = 0"));
        noSteps.addAll(Rows.all("stepAt(0..5, 0..2) = UNKNOWN"));
        changes(19, "wipe() = 6", noSteps.toArray(new String[0]));
        List<String> threeSteps = new ArrayList<>(List.of("many(3) = 3", "stepAt(1, 0) = 0", "stepAt(1, 1) = 2", "stepAt(2, 2) = 0"));
        threeSteps.addAll(Rows.all("stepAt(3..5, 0..2) = UNKNOWN"));
        changes(23, "plan(1, 0) = 3", threeSteps.toArray(new String[0]));
        changes(23, "plan(4, 4) = 0", noSteps.toArray(new String[0]));
    }

    private static void texts() {
        changes(24, "key(51) = 11", "many(4) = 11", "line() = -110");
        changes(25, "blank() = 10", "many(4) = 0", "line() = -100");
        changes(26, "line() = 1002", "many(4) = 0", "ofRoom(3, 1) = 7", "line() = -100");
    }

    private static void queries() {
        for (String call : Rows.all("ofRoom(1, 0) = 1; ofRoom(1, 1) = 4; ofRoom(1, 2) = 2; ofRoom(1, 3) = 5; ofRoom(1, 4) = 30;"
                + "ofRoom(1, 5) = 0; levelIn(4, 3) = 3; ofNet(0, 0) = 1; ofNet(0, 1) = 0; ofNet(0, 2) = 1; ofNet(0, 3) = 3;"
                + "ofNet(0, 4) = 2; ofNet(0, 5) = 1; ofNet(0, 6) = 3; ofNet(0, 7) = 0; ofNet(0, 8) = 0; ofNet(0, 9) = 24;"
                + "fault(0, 3) = 3; faults(1) = 2; faults(2) = 0; faults(3) = 5; faults(4) = 4; way(0, 2, NONE) = 3; way(0, 5, 1) = 4;"
                + "stepAt(3, 2) = 3; judge(1, ..) = 0 5 5 1 27 36 41; stride(0, 3, NONE) = 4; stride(0, 3, 2) = 2;"
                + "text(0, -1) = 18; text(0, 17) = 51; many(0) = 5; many(1) = 6; many(2) = 4; many(3) = 6; many(4) = 10;"
                + "many(5) = 4; many(6) = 1")) {
            changes(28, call);
        }
    }

    private static void refused() {
        for (String call : Rows.all("room(6, 1) = UNKNOWN; near(0, 0, 1) = STATE; net(5, 5) = STATE; scene(1, 2, 3, 1) = STATE;"
                + "guard(6, 0, 0) = UNKNOWN; open(6) = UNKNOWN; lift(5, 4) = OUTSIDE; keep(2, 10, 0) = OUTSIDE; step(4, 3, 4) = OUTSIDE;"
                + "plan(0, 4) = STATE; plan(5, 0) = UNKNOWN; key(128) = OUTSIDE; text(0, 40) = OUTSIDE; many(7) = OUTSIDE")) {
            changes(28, call);
        }
    }

    private static SleepingRooms chip() {
        SleepingRooms x = CALLS.fresh("the chip", CHIP);
        Calls.type(x, TAPE);
        return x;
    }

    /** Whatever is not named among the changes must be as on a chip that has not got the call. */
    private static void changes(int promise, String call, String... changes) {
        Map<String, Integer> due = seen(chip());
        for (String change : changes) {
            String[] parts = change.split(" = ");
            CALLS.holds(change + " is a change", due.put(parts[0], Calls.number(parts[1])) != Calls.number(parts[1]));
        }
        SleepingRooms x = chip();
        CALLS.on(x, "promise " + promise, call);
        compare("promise " + promise + ", " + call, seen(x), due);
    }

    private static void compare(String name, Map<String, Integer> got, Map<String, Integer> due) {
        for (Map.Entry<String, Integer> entry : due.entrySet()) {
            CALLS.due(name, "then " + entry.getKey(), got.get(entry.getKey()), entry.getValue());
        }
    }

    /** All that can be seen of the state; the line comes last, as it changes something. */
    private static Map<String, Integer> seen(SleepingRooms x) {
        Map<String, Integer> answers = new LinkedHashMap<>();
        for (String call : Rows.all("many(0..4) = 0; ofRoom(0..5, 0..3) = 0; levelIn(0..7, 0..3) = 0; ofNet(0..7, 0..4) = 0;"
                + "stepAt(0..7, 0..2) = 0; line() = 0")) {
            answers.put(call.split(" = ")[0], Calls.Call.of(call).made(x));
        }
        return answers;
    }
}
