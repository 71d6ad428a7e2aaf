/** Promises 18 to 23: steps, judging, strides, plans. */
public final class ScriptsTest {
    private static final Calls CALLS = new Calls("ScriptsTest");

    /** Room 1 sleeps in scenes 0 and 3; supply 2 is on in scenes 2 and 3; net 0 comes from room 1. */
    private static final String SLEEPER = "room(1, 1) = 0; net(1, 0) = 0; scene(1, 0, 0, 0) = 0;"
        + "scene(1, 1, 0, 0) = 1; scene(1, 1, 1, 0) = 2; scene(1, 0, 1, 0) = 3;";

    public static void main(String[] args) {
        steps();
        wipe();
        wrongQueries();
        beginnings();
        holdAndFree();
        save();
        restore();
        levels();
        everySupply();
        sleepingSources();
        sourcesNotReady();
        reasonsInOrder();
        queriedAsThingsAre();
        strides();
        plans();
        plansWithKeepers();
        plansOfRoomZero();
        longPlans();
        CALLS.end();
    }

    private static void steps() {
        SleepingRooms x = CALLS.fresh("18 step",
            "step(0, 15, 7) = 1; step(1, 0, MIN) = 2; step(2, 5, MAX) = 3; step(3, 0, -1) = 4; step(4, 3, 3) = 5;",
            "step(4, 0, 0) = 6; stepAt(0, 0) = 0; stepAt(0, 1) = 15; stepAt(0, 2) = 0; stepAt(1, 2) = 0;",
            "stepAt(2, 0) = 2; stepAt(2, 1) = 5; stepAt(2, 2) = 0; stepAt(3, 2) = 0; stepAt(4, 0) = 4;",
            "stepAt(4, 1) = 3; stepAt(4, 2) = 3; step(5, 0, 0) = OUTSIDE; step(-1, 0, 0) = OUTSIDE;",
            "step(0, 16, 0) = OUTSIDE; step(0, -1, 0) = OUTSIDE; step(1, 16, 0) = OUTSIDE; step(1, -1, 0) = OUTSIDE;",
            "step(2, 6, 0) = OUTSIDE; step(2, -1, 0) = OUTSIDE; step(3, 6, 0) = OUTSIDE; step(3, -1, 0) = OUTSIDE;",
            "step(4, 4, 0) = OUTSIDE; step(4, -1, 0) = OUTSIDE; step(4, 0, 4) = OUTSIDE; step(4, 0, -1) = OUTSIDE;",
            "many(3) = 6; stepAt(6, 0) = UNKNOWN; stepAt(-1, 0) = UNKNOWN; stepAt(0, 3) = OUTSIDE;",
            "stepAt(0, -1) = OUTSIDE; stepAt(6, 3) = UNKNOWN");
        for (int count = 7; count <= 40; count++) {
            CALLS.due("18 step", "step(0, 1, 0)", x.step(0, 1, 0), count);
        }
        CALLS.on(x, "18 step, full",
            "step(0, 1, 0) = FULL; step(5, 1, 0) = OUTSIDE; many(3) = 40; stepAt(39, 1) = 1; stepAt(40, 1) = UNKNOWN");
    }

    private static void wipe() {
        CALLS.fresh("19 wipe", "wipe() = 0; step(2, 1, 0) = 1; step(3, 1, 0) = 2; wipe() = 2; many(3) = 0;",
            "stepAt(0, 0) = UNKNOWN; wipe() = 0; step(4, 1, 2) = 1; stepAt(0, 0) = 4");
    }

    private static void wrongQueries() {
        CALLS.fresh("21 judge, wrong", "judge(0, 0) = UNKNOWN; judge(0, 7) = UNKNOWN; scene(1, 0, 0, 0) = 0;",
            "judge(0, 7) = OUTSIDE; judge(0, -1) = OUTSIDE; judge(1, 7) = UNKNOWN; judge(-1, 0) = UNKNOWN;",
            "judge(0, 0) = NONE; judge(0, 1) = NONE; judge(0, 2) = NONE; judge(0, 3) = 0; judge(0, 4) = 63;",
            "judge(0, 5) = 0; judge(0, 6) = 0");
    }

    private static void beginnings() {
        CALLS.fresh("21 the state at first, in which nothing is bad yet", SLEEPER,
            "room(2, 1) = 0; room(3, 1) = 0; net(0, 1) = 1; net(2, 3) = 2; guard(1, 0, 0) = 1; guard(2, 0, 1) = 1;",
            "keep(1, 1, 2) = 0; keep(2, 1, 0) = 0; keep(3, 0, 0) = 0; keep(0, 5, 0) = 0;",
            "judge(0, 0) = NONE; judge(0, 3) = 0; judge(0, 4) = 49; judge(0, 5) = 4; judge(0, 6) = 4;",
            "judge(3, 3) = 3; judge(3, 4) = 49; judge(3, 5) = 6; judge(3, 6) = 4; judge(2, 4) = 63;",
            "judge(2, 5) = 0; judge(2, 6) = 0");
    }

    private static void holdAndFree() {
        CALLS.fresh("21 hold and free", SLEEPER,
            "step(0, 0, 0) = 1; judge(1, 0) = 0; judge(1, 1) = 1; judge(1, 2) = NONE; judge(1, 6) = 0;",
            "guard(0, 0, 0) = 1; judge(1, 0) = NONE; judge(1, 6) = 1; step(1, 0, 0) = 2; judge(1, 0) = NONE;",
            "judge(1, 6) = 0; step(0, 0, 0) = 3; step(1, 1, 0) = 4; judge(1, 0) = 3; judge(1, 1) = 1; judge(1, 6) = 1;",
            "net(1, 0) = 1; judge(1, 0) = 3; judge(1, 1) = 1; guard(1, 0, 0) = 1; judge(1, 0) = NONE");
    }

    private static void save() {
        CALLS.fresh("21 save", SLEEPER, "guard(0, 0, 0) = 1; step(2, 1, 0) = 1; judge(1, 1) = 2; judge(1, 2) = NONE;",
            "keep(1, 2, 0) = 0; judge(1, 0) = NONE; judge(1, 5) = 2; judge(0, 0) = 0; judge(0, 1) = 2;",
            "keep(1, 2, 2) = 2; judge(1, 1) = 2; judge(1, 5) = 0; judge(2, 1) = NONE; judge(2, 5) = 2;",
            "wipe() = 1; step(4, 1, 1) = 1; step(2, 1, 0) = 2; judge(0, 0) = 1; judge(0, 1) = 2; judge(0, 3) = 1;",
            "judge(0, 4) = 61; judge(3, 0) = 1; judge(3, 1) = 2; judge(3, 5) = 2");
    }

    private static void restore() {
        CALLS.fresh("21 restore", SLEEPER, "guard(0, 0, 0) = 1; keep(1, 2, 0) = 0; step(3, 1, 0) = 1;",
            "judge(0, 0) = 0; judge(0, 1) = 3; judge(1, 1) = 3; wipe() = 1; step(4, 1, 1) = 1; step(3, 1, 0) = 2;",
            "judge(0, 0) = NONE; judge(0, 4) = 63; judge(0, 5) = 2; judge(0, 6) = 1; keep(1, 2, 2) = 2;",
            "judge(0, 0) = 1; judge(0, 1) = 3; judge(0, 2) = NONE; judge(0, 4) = 61; judge(3, 0) = NONE; judge(3, 4) = 63");
    }

    private static void levels() {
        CALLS.fresh("21 levels", SLEEPER,
            "guard(0, 0, 0) = 1; step(4, 1, 2) = 1; judge(0, 0) = 0; judge(0, 1) = 4; judge(0, 3) = 0; wipe() = 1;",
            "step(4, 0, 0) = 1; judge(1, 1) = 4; wipe() = 1; step(4, 2, 0) = 1; judge(0, 0) = NONE; judge(0, 3) = 0;",
            "wipe() = 1; room(2, 1) = 0; room(3, 1) = 0; keep(2, 1, 1) = 0; keep(3, 1, 2) = 0; keep(4, 1, 1) = 0;",
            "step(2, 2, 0) = 1; step(2, 3, 0) = 2; step(2, 4, 0) = 3; judge(2, 0) = NONE; judge(2, 5) = 28;",
            "step(0, 0, 0) = 4; step(4, 1, 0) = 5; judge(2, 0) = NONE; judge(2, 3) = 3; judge(2, 4) = 49;",
            "judge(2, 5) = 8; step(4, 2, 0) = 6; judge(2, 3) = 0; judge(2, 5) = 0; step(4, 1, 1) = 7;",
            "judge(2, 3) = 1; judge(2, 4) = 51; judge(2, 0) = NONE");
        CALLS.fresh("21 a level that only changes makes nothing ready",
            "room(1, 1) = 0; keep(1, 1, 0) = 0; scene(1, 0, 0, 0) = 0; scene(1, 1, 0, 0) = 1; scene(1, 2, 0, 0) = 2;",
            "step(4, 1, 1) = 1; step(4, 1, 2) = 2; judge(0, 4) = 61; judge(0, 3) = 2; judge(1, 4) = 63;",
            "step(3, 1, 0) = 3; judge(0, 4) = 63; step(4, 1, 1) = 4; judge(0, 4) = 63; judge(0, 5) = 2");
    }

    private static void everySupply() {
        CALLS.fresh("21 levels of the supplies 0, 2 and 3",
            "room(0, 2) = 0; keep(0, 1, 3) = 0; room(1, 3) = 0; room(2, 1) = 0; scene(1, 0, 1, 1) = 0; scene(1, 0, 0, 1) = 1;",
            "scene(1, 0, 0, 0) = 2; scene(1, 0, 0, 2) = 3; scene(3, 0, 0, 2) = 4; step(2, 0, 0) = 1; step(4, 2, 0) = 2;",
            "judge(0, 3) = 1; judge(0, 4) = 58; judge(0, 5) = 1; step(4, 3, 2) = 3; judge(0, 3) = 3; judge(0, 5) = 1;",
            "step(4, 0, 3) = 4; judge(0, 3) = 4; judge(0, 4) = 58; step(4, 0, 1) = 5; step(4, 3, 0) = 6; judge(0, 3) = 2;",
            "judge(0, 4) = 56; judge(0, 5) = 0; step(4, 3, 1) = 7; step(4, 2, 1) = 8; judge(0, 3) = 0; judge(0, 4) = 58;",
            "judge(0, 0) = NONE; step(4, 3, 3) = 9; judge(0, 0) = 8; judge(0, 1) = 4; judge(0, 3) = 0");
        CALLS.fresh("21 a room that sleeps at first is not ready", "room(0, 1) = 0; scene(1, 0, 0, 0) = 0; judge(0, 4) = 62");
        CALLS.fresh("21 a supply that stays off",
            "room(0, 1) = 0; scene(1, 0, 0, 0) = 0; step(4, 1, 0) = 1; judge(0, 4) = 62; judge(0, 0) = NONE");
    }

    private static void sleepingSources() {
        CALLS.fresh("21 reason 5", SLEEPER,
            "net(1, 2) = 1; net(0, 1) = 2; guard(0, 0, 0) = 1; guard(1, 0, 2) = 1; step(4, 1, 0) = 1;",
            "judge(1, 0) = 0; judge(1, 1) = 5; judge(1, 2) = 0; judge(1, 3) = 0; judge(1, 4) = 61; wipe() = 1;",
            "step(0, 0, 0) = 1; step(0, 1, 0) = 2; step(4, 1, 0) = 3; step(0, 0, 0) = 4; judge(1, 0) = 2;",
            "judge(1, 1) = 5; judge(1, 2) = 1; judge(1, 6) = 3; judge(2, 0) = NONE; judge(2, 3) = 3;",
            "step(4, 2, 0) = 5; judge(2, 0) = 4; judge(2, 1) = 5; judge(2, 2) = 1; judge(2, 3) = 0;",
            "room(2, 1) = 0; judge(2, 0) = NONE; open(0) = 1; judge(1, 0) = 0; judge(1, 1) = 1");
        CALLS.fresh("21 a guard that is off matters only behind a sleeping room", SLEEPER,
            "guard(0, 0, 2) = 1; step(0, 0, 0) = 1; judge(1, 0) = NONE; judge(0, 1) = 5; judge(3, 1) = NONE");
        CALLS.fresh("21 a net without a guard", SLEEPER, "step(4, 1, 0) = 1; judge(1, 1) = 5; judge(0, 1) = 5");
    }

    private static void sourcesNotReady() {
        CALLS.fresh("21 reason 6", SLEEPER, "keep(1, 1, 0) = 0; room(2, 2) = 0; net(1, 2) = 1;",
            "guard(0, 0, 0) = 1; guard(1, 0, 0) = 1; step(4, 1, 1) = 1; step(1, 1, 0) = 2; judge(0, 0) = NONE;",
            "step(4, 2, 1) = 3; judge(0, 0) = 2; judge(0, 1) = 6; judge(0, 2) = 1; judge(0, 3) = 2; judge(0, 6) = 1;",
            "wipe() = 3; step(4, 1, 1) = 1; step(1, 0, 0) = 2; judge(0, 1) = 6; judge(0, 2) = 0; judge(0, 4) = 57;",
            "wipe() = 2; step(4, 1, 1) = 1; step(3, 1, 0) = 2; step(1, 0, 0) = 3; judge(0, 0) = NONE; judge(0, 6) = 2");
        CALLS.fresh("21 reason 6 with a guard that is off", SLEEPER,
            "keep(1, 1, 0) = 0; guard(0, 0, 2) = 1; step(4, 1, 1) = 1; judge(0, 0) = NONE; judge(0, 4) = 61");
    }

    private static void reasonsInOrder() {
        CALLS.fresh("21 reason 5 of a later net goes first", SLEEPER,
            "keep(1, 1, 0) = 0; room(2, 3) = 0; net(2, 0) = 1; net(2, 1) = 2; step(4, 1, 1) = 1;",
            "judge(0, 0) = 0; judge(0, 1) = 5; judge(0, 2) = 1; guard(1, 0, 0) = 1; judge(0, 2) = 2;",
            "guard(2, 0, 0) = 1; judge(0, 1) = 6; judge(0, 2) = 0; guard(0, 0, 0) = 1; judge(0, 0) = NONE");
    }

    private static void queriedAsThingsAre() {
        CALLS.fresh("21 with the scenes that there are now", "step(4, 1, 1) = 1; scene(1, 0, 0, 0) = 0;",
            "judge(0, 1) = 4; scene(1, 1, 0, 0) = 1; judge(0, 1) = NONE; judge(0, 3) = 1; many(3) = 1; judge(0, 3) = 1");
    }

    private static void strides() {
        CALLS.fresh("22 stride", "stride(0, 0, NONE) = UNKNOWN;",
            "scene(1, 0, 0, 0) = 0; scene(1, 1, 1, 0) = 1; stride(0, 1, NONE) = NONE; stride(0, 1, 0) = NONE;",
            "stride(0, 0, NONE) = 1; stride(0, 0, 0) = 0; stride(0, 0, 1) = NONE; scene(1, 0, 1, 0) = 2;",
            "scene(1, 1, 0, 0) = 3; stride(0, 1, NONE) = 3; stride(0, 1, 0) = 0; stride(0, 1, 1) = 2;",
            "stride(0, 1, 2) = 1; stride(0, 1, 3) = NONE; stride(1, 0, 1) = 2; scene(1, 3, 3, 0) = 4;",
            "stride(0, 4, NONE) = NONE; scene(1, 3, 1, 0) = 5; stride(0, 4, NONE) = 4; stride(0, 4, 1) = 2;",
            "stride(0, 4, 2) = 5; stride(0, 4, 3) = 4; stride(3, 4, 1) = 1; stride(6, 0, 0) = UNKNOWN;",
            "stride(0, 6, 8) = UNKNOWN; stride(-1, 0, 0) = UNKNOWN; stride(0, 1, 8) = OUTSIDE;",
            "stride(0, 1, -1) = OUTSIDE; stride(0, 1, -10) = OUTSIDE; stride(0, 1, 7) = NONE");
        CALLS.fresh("22 stride through all scenes",
            "scene(1, 0, 0, 0) = 0; scene(1, 1, 0, 0) = 1; scene(1, 1, 1, 0) = 2; scene(1, 1, 1, 1) = 3;",
            "scene(2, 1, 1, 1) = 4; scene(2, 2, 1, 1) = 5; scene(2, 2, 2, 1) = 6; scene(2, 2, 2, 2) = 7;",
            "stride(0, 7, NONE) = 8; stride(0, 7, 6) = 6; stride(0, 7, 7) = 7; stride(7, 0, 1) = 6; stride(7, 0, 7) = 0");
    }

    private static void plans() {
        CALLS.fresh("23 plan", SLEEPER, "plan(0, 0) = 0; plan(0, 1) = 1; stepAt(0, 0) = 4; stepAt(0, 1) = 1;",
            "stepAt(0, 2) = 1; guard(0, 0, 0) = 1; net(1, 2) = 1; net(1, 0) = 2; guard(2, 1, 0) = 1; net(0, 1) = 3;",
            "guard(3, 1, 0) = 1; plan(1, 0) = 3; stepAt(0, 0) = 0; stepAt(0, 1) = 0; stepAt(1, 0) = 0;",
            "stepAt(1, 1) = 2; stepAt(2, 0) = 4; stepAt(2, 1) = 1; stepAt(2, 2) = 0; judge(1, 1) = 5; judge(1, 2) = 1;",
            "plan(0, 1) = 3; stepAt(0, 0) = 4; stepAt(0, 2) = 1; stepAt(1, 0) = 1; stepAt(1, 1) = 0; stepAt(2, 0) = 1;",
            "stepAt(2, 1) = 2; judge(0, 0) = NONE; plan(2, 3) = 3; scene(1, 2, 0, 0) = 4; plan(1, 4) = 1;",
            "stepAt(0, 0) = 4; stepAt(0, 1) = 1; stepAt(0, 2) = 2; plan(5, 0) = UNKNOWN; plan(0, 5) = UNKNOWN;",
            "plan(-1, 0) = UNKNOWN; scene(2, 3, 3, 3) = 5; plan(0, 5) = STATE; many(3) = 1; stepAt(0, 2) = 2");
        CALLS.fresh("23 plan, nets to sleeping rooms are not held", SLEEPER,
            "guard(0, 0, 0) = 1; room(2, 1) = 0; net(1, 2) = 1; guard(1, 0, 0) = 1; room(3, 2) = 0; net(1, 3) = 2;",
            "guard(2, 0, 0) = 1; plan(1, 0) = 2; stepAt(0, 1) = 0; plan(2, 3) = 3; stepAt(1, 1) = 2;",
            "plan(2, 0) = 3; stepAt(0, 0) = 4; stepAt(0, 1) = 2; stepAt(1, 0) = 0; stepAt(1, 1) = 0; stepAt(2, 1) = 1");
    }

    private static void plansWithKeepers() {
        CALLS.fresh("23 plan, registers", SLEEPER, "room(2, 1) = 0; room(3, 1) = 0; room(4, 1) = 0; guard(0, 0, 0) = 1;",
            "keep(1, 1, 0) = 0; keep(2, 1, 1) = 0; keep(3, 1, 2) = 0; keep(0, 1, 0) = 0; plan(1, 0) = 3;",
            "stepAt(0, 0) = 0; stepAt(1, 0) = 2; stepAt(1, 1) = 1; stepAt(2, 0) = 4; judge(1, 0) = NONE;",
            "judge(1, 5) = 2; plan(2, 3) = 4; stepAt(1, 1) = 1; stepAt(2, 0) = 2; stepAt(2, 1) = 3;",
            "plan(0, 1) = 3; stepAt(0, 0) = 4; stepAt(1, 0) = 3; stepAt(1, 1) = 1; stepAt(2, 0) = 1;",
            "plan(3, 2) = 4; stepAt(1, 1) = 1; stepAt(2, 0) = 3; stepAt(2, 1) = 3; stepAt(3, 0) = 1;",
            "plan(3, 1) = 4; stepAt(0, 1) = 2; stepAt(1, 1) = 1; stepAt(2, 0) = 3; stepAt(2, 1) = 1;",
            "stepAt(3, 0) = 1; judge(3, 0) = NONE; judge(3, 4) = 51");
    }

    private static void plansOfRoomZero() {
        CALLS.fresh("23 plan, room 0 and supply 3",
            "room(0, 3) = 0; keep(0, 2, 2) = 0; net(0, 1) = 0; guard(0, 1, 0) = 1; scene(1, 0, 1, 2) = 0; scene(1, 0, 1, 0) = 1;",
            "plan(0, 1) = 3; stepAt(0, 0) = 0; stepAt(0, 2) = 0; stepAt(1, 0) = 2; stepAt(1, 1) = 0; stepAt(1, 2) = 0;",
            "stepAt(2, 0) = 4; stepAt(2, 1) = 3; stepAt(2, 2) = 0; judge(0, 0) = NONE; judge(0, 4) = 62; judge(0, 5) = 1;",
            "plan(1, 0) = 3; stepAt(0, 1) = 3; stepAt(0, 2) = 2; stepAt(1, 0) = 3; stepAt(1, 1) = 0; stepAt(1, 2) = 0;",
            "stepAt(2, 0) = 1; stepAt(2, 1) = 0; stepAt(2, 2) = 0; judge(1, 0) = NONE; judge(1, 4) = 63");
    }

    /** A plan that puts room 1 to sleep and wakes it again, with a hold and a free for each of 16 nets. */
    private static void longPlans() {
        SleepingRooms x = CALLS.fresh("23 plan, long",
            "scene(1, 1, 1, 0) = 0; scene(1, 0, 1, 0) = 1; scene(1, 0, 2, 0) = 2; scene(1, 2, 2, 0) = 3;",
            "scene(2, 2, 2, 0) = 4; room(1, 1) = 0; room(2, 1) = 0; room(3, 1) = 0; keep(1, 1, 0) = 0; keep(2, 1, 0) = 0");
        for (int n = 0; n < 16; n++) {
            CALLS.due("23 plan, long", "net(1, 0)", x.net(1, 0), n);
            CALLS.due("23 plan, long", "guard", x.guard(n, 0, 0), 1);
        }
        CALLS.on(x, "23 plan, long",
            "plan(0, 4) = 40; stepAt(39, 0) = 4; stepAt(39, 1) = 0; stepAt(39, 2) = 2; stepAt(0, 0) = 0;",
            "stepAt(15, 1) = 15; stepAt(16, 0) = 2; stepAt(38, 0) = 1; stepAt(38, 1) = 15; judge(0, 0) = NONE;",
            "judge(0, 3) = 4; judge(0, 4) = 63; judge(0, 5) = 6; judge(0, 6) = 0; plan(0, 1) = 19;",
            "keep(3, 1, 0) = 0; plan(0, 4) = FULL; many(3) = 19; stepAt(18, 0) = 4; plan(0, 3) = FULL;",
            "open(0) = 1; plan(0, 3) = 39; plan(0, 4) = 40; keep(3, 1, 1) = 1; plan(0, 4) = 38; plan(4, 4) = 0; many(3) = 0");
    }
}
