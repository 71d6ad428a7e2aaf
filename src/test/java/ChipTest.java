/** Promises 1 to 12: rooms, neighbours, nets, scenes, guards, lifts, keepers. */
public final class ChipTest {
    private static final Calls CALLS = new Calls("ChipTest");

    public static void main(String[] args) {
        newObject();
        rooms();
        neighbours();
        nets();
        scenes();
        guards();
        lifts();
        keepers();
        anew();
        nothingStaysBehind();
        propertiesOfRooms();
        levels();
        CALLS.end();
    }

    private static void newObject() {
        SleepingRooms x = CALLS.fresh("1 a new object",
            "many(0) = 0; many(1) = 0; many(2) = 0; many(3) = 0; many(4) = 0; many(5) = 0; many(6) = 0;",
            "line() = -100; mend() = 0; faults(1) = 0; levelIn(0, 0) = UNKNOWN; ofNet(0, 0) = UNKNOWN;",
            "stepAt(0, 0) = UNKNOWN; judge(0, 0) = UNKNOWN; wipe() = 0; blank() = 0; anew() = 0");
        for (int r = 0; r < 6; r++) {
            for (int what = 0; what < 6; what++) {
                CALLS.due("1 a new object", "ofRoom(" + r + ", " + what + ")", x.ofRoom(r, what), 0);
            }
        }
        SleepingRooms used = CALLS.fresh("1 objects are apart", "net(0, 1) = 0; scene(1, 1, 1, 1) = 0; key(1) = 1");
        CALLS.fresh("1 objects are apart", "many(0) = 0; many(1) = 0; many(4) = 0");
        CALLS.on(used, "1 objects are apart", "many(0) = 1; many(1) = 1; many(4) = 1");
    }

    private static void rooms() {
        CALLS.fresh("2 room",
            "room(0, 3) = 0; room(0, 1) = 3; room(0, 1) = 1; ofRoom(0, 0) = 1; room(5, 2) = 0; ofRoom(5, 0) = 2;",
            "ofRoom(1, 0) = 0; room(6, 0) = UNKNOWN; room(-1, 0) = UNKNOWN; room(0, 4) = UNKNOWN;",
            "room(0, -1) = UNKNOWN; room(MAX, MIN) = UNKNOWN; ofRoom(0, 0) = 1; room(5, 0) = 2; room(5, 3) = 0");
    }

    private static void neighbours() {
        CALLS.fresh("3 near",
            "near(0, 1, 1) = 0; near(0, 1, 1) = 1; near(1, 0, 1) = 1; ofRoom(0, 3) = 2; ofRoom(1, 3) = 1;",
            "near(5, 0, 1) = 0; ofRoom(0, 3) = 34; ofRoom(5, 3) = 1; near(1, 0, 0) = 1; near(0, 1, 0) = 0;",
            "ofRoom(0, 3) = 32; ofRoom(1, 3) = 0; near(2, 3, 0) = 0; ofRoom(2, 3) = 0");
        CALLS.fresh("3 near, wrong",
            "near(6, 0, 1) = UNKNOWN; near(0, 6, 1) = UNKNOWN; near(-1, 0, 1) = UNKNOWN; near(0, -1, 1) = UNKNOWN;",
            "near(6, 6, 2) = UNKNOWN; near(0, 6, 2) = UNKNOWN; near(0, 1, 2) = OUTSIDE; near(0, 1, -1) = OUTSIDE;",
            "near(1, 1, 2) = OUTSIDE; near(1, 1, 1) = STATE; near(1, 1, 0) = STATE; ofRoom(0, 3) = 0; ofRoom(1, 3) = 0");
    }

    private static void nets() {
        SleepingRooms x = CALLS.fresh("4 net",
            "net(0, 1) = 0; net(0, 1) = 1; net(5, 2) = 2; ofNet(2, 0) = 5; ofNet(2, 1) = 2; ofNet(2, 2) = NONE;",
            "ofNet(2, 3) = NONE; ofNet(2, 4) = 0; net(6, 0) = UNKNOWN; net(0, 6) = UNKNOWN; net(-1, 0) = UNKNOWN;",
            "net(0, -1) = UNKNOWN; net(6, 6) = UNKNOWN; net(3, 3) = STATE; many(1) = 3");
        for (int n = 3; n < 16; n++) {
            CALLS.due("4 net", "net(1, 0)", x.net(1, 0), n);
        }
        CALLS.on(x, "4 net, full",
            "net(1, 0) = FULL; net(1, 1) = STATE; net(6, 1) = UNKNOWN; many(1) = 16; ofNet(15, 0) = 1;",
            "ofNet(16, 0) = UNKNOWN; anew() = 16; net(2, 3) = 0; ofNet(0, 0) = 2");
    }

    private static void scenes() {
        SleepingRooms x = CALLS.fresh("5 scene",
            "scene(1, 2, 3, 0) = 0; levelIn(0, 0) = 1; levelIn(0, 1) = 2; levelIn(0, 2) = 3; levelIn(0, 3) = 0;",
            "scene(1, 2, 3, 0) = STATE; scene(0, 2, 3, 0) = STATE; scene(4, 0, 0, 0) = OUTSIDE;",
            "scene(-1, 0, 0, 0) = OUTSIDE; scene(1, 4, 0, 0) = OUTSIDE; scene(1, -1, 0, 0) = OUTSIDE;",
            "scene(1, 0, 4, 0) = OUTSIDE; scene(1, 0, -1, 0) = OUTSIDE; scene(1, 0, 0, 4) = OUTSIDE;",
            "scene(1, 0, 0, -1) = OUTSIDE; scene(0, 0, 0, 4) = OUTSIDE; many(0) = 1; scene(1, 2, 3, 1) = 1;",
            "scene(1, 2, 0, 0) = 2; scene(1, 0, 3, 0) = 3; scene(2, 2, 3, 0) = 4; scene(3, 3, 3, 3) = 5;",
            "scene(1, 0, 0, 0) = 6; scene(2, 0, 0, 0) = 7");
        CALLS.on(x, "5 scene, full",
            "scene(3, 0, 0, 0) = FULL; scene(2, 0, 0, 0) = STATE; scene(0, 0, 0, 0) = STATE; scene(0, 0, 9, 0) = OUTSIDE;",
            "many(0) = 8; levelIn(7, 0) = 2; levelIn(8, 0) = UNKNOWN");
    }

    private static void guards() {
        CALLS.fresh("6 guard and 7 open",
            "guard(0, 0, 0) = UNKNOWN; open(0) = UNKNOWN; net(0, 1) = 0; net(1, 0) = 1; open(0) = 0;",
            "guard(0, 1, 2) = 1; ofNet(0, 2) = 1; ofNet(0, 3) = 2; ofNet(1, 2) = NONE; guard(0, 0, 3) = 1;",
            "ofNet(0, 2) = 0; ofNet(0, 3) = 3; guard(0, 2, 0) = OUTSIDE; guard(0, -1, 0) = OUTSIDE;",
            "guard(0, 2, 4) = UNKNOWN; guard(0, 0, 4) = UNKNOWN; guard(0, 0, -1) = UNKNOWN; guard(2, 0, 0) = UNKNOWN;",
            "guard(-1, 2, 0) = UNKNOWN; ofNet(0, 2) = 0; ofNet(0, 3) = 3; many(2) = 1; open(2) = UNKNOWN;",
            "open(-1) = UNKNOWN; open(0) = 1; open(0) = 0; ofNet(0, 2) = NONE; ofNet(0, 3) = NONE; many(2) = 0");
    }

    private static void lifts() {
        CALLS.fresh("8 lift",
            "lift(0, 0) = UNKNOWN; net(0, 1) = 0; net(0, 1) = 1; lift(0, 3) = 0; lift(0, 1) = 3; ofNet(0, 4) = 1;",
            "ofNet(1, 4) = 0; lift(0, 2) = 1; lift(0, 4) = OUTSIDE; lift(0, -1) = OUTSIDE; lift(2, 4) = UNKNOWN;",
            "lift(-1, 0) = UNKNOWN; ofNet(0, 4) = 2; lift(0, 0) = 2; ofNet(0, 4) = 0");
    }

    private static void keepers() {
        CALLS.fresh("9 keep",
            "keep(0, 9, 3) = 0; ofRoom(0, 1) = 9; ofRoom(0, 2) = 3; keep(0, 1, 2) = 9; ofRoom(0, 2) = 2;",
            "ofRoom(1, 1) = 0; keep(5, 0, 1) = 0; ofRoom(5, 2) = 1; keep(0, 10, 1) = OUTSIDE;",
            "keep(0, -1, 1) = OUTSIDE; keep(0, 10, 4) = UNKNOWN; keep(0, 1, -1) = UNKNOWN; keep(6, 10, 0) = UNKNOWN;",
            "keep(-1, 1, 0) = UNKNOWN; ofRoom(0, 1) = 1; ofRoom(0, 2) = 2; keep(0, 0, 0) = 1; keep(0, 5, 0) = 0");
    }

    private static void anew() {
        SleepingRooms x = CALLS.fresh("10 anew",
            "room(1, 2) = 0; near(1, 2, 1) = 0; net(1, 2) = 0; net(2, 1) = 1; guard(0, 1, 1) = 1; lift(0, 3) = 0;",
            "keep(1, 4, 3) = 0; scene(1, 1, 1, 1) = 0; scene(1, 0, 0, 0) = 1; step(4, 1, 1) = 1; key(110) = 1;",
            "key(101) = 2; anew() = 2; many(0) = 0; many(1) = 0; many(2) = 0; many(3) = 0; many(4) = 2;",
            "many(5) = 0; many(6) = 0; line() = -102; key(116) = 3; line() = -103; anew() = 0;",
            "scene(1, 0, 0, 0) = 0; net(4, 5) = 0; ofNet(0, 2) = NONE; ofNet(0, 3) = NONE; ofNet(0, 4) = 0;",
            "ofNet(0, 0) = 4; step(0, 0, 0) = 1; anew() = 1");
        for (int what = 0; what < 6; what++) {
            CALLS.due("10 anew", "ofRoom(1, " + what + ")", x.ofRoom(1, what), 0);
            CALLS.due("10 anew", "ofRoom(2, " + what + ")", x.ofRoom(2, what), 0);
        }
    }

    /** What was there before must not shine through where there is less now. */
    private static void nothingStaysBehind() {
        CALLS.fresh("10 anew, nothing stays behind",
            "room(0, 1) = 0; room(3, 2) = 0; near(0, 1, 1) = 0; keep(0, 4, 3) = 0;",
            "scene(1, 0, 0, 0) = 0; scene(1, 3, 0, 0) = 1; scene(1, 0, 3, 1) = 2; scene(2, 0, 0, 3) = 3;",
            "net(0, 1) = 0; net(1, 0) = 1; net(0, 2) = 2; net(0, 2) = 3; guard(0, 1, 3) = 1; guard(3, 1, 3) = 1; lift(1, 3) = 0;",
            "step(4, 1, 3) = 1; anew() = 4;",
            "ofRoom(0, 0) = 0; ofRoom(0, 1) = 0; ofRoom(0, 2) = 0; ofRoom(0, 3) = 0; ofRoom(1, 3) = 0;",
            "room(0, 1) = 0; room(3, 2) = 0; keep(0, 4, 3) = 0; net(0, 1) = 0; net(3, 1) = 1; faults(1) = 0; many(5) = 0;",
            "scene(2, 2, 2, 0) = 0; faults(1) = 0; faults(2) = 0; faults(3) = 0; faults(4) = 0; ofNet(0, 5) = 0;",
            "ofNet(0, 6) = 0; ofNet(0, 7) = 0; ofNet(0, 9) = 0; ofRoom(0, 4) = 1; ofRoom(0, 5) = 0; text(0, -1) = 12;",
            "levelIn(1, 0) = UNKNOWN; mend() = 0; stride(0, 0, NONE) = 1; judge(0, 6) = 0; scene(1, 3, 0, 0) = 1;",
            "stride(0, 1, NONE) = NONE; way(0, 1, NONE) = NONE; net(2, 0) = 2; faults(4) = 1; faults(3) = 1; many(5) = 3;",
            "many(2) = 0; anew() = 3; room(0, 1) = 0; net(2, 0) = 0; scene(2, 2, 2, 0) = 0; ofNet(0, 7) = 0; scene(2, 0, 2, 0) = 1;",
            "judge(1, 6) = 0; plan(0, 1) = 1; plan(1, 0) = 1");
    }

    private static void propertiesOfRooms() {
        CALLS.fresh("11 ofRoom",
            "room(2, 1) = 0; keep(2, 0, 2) = 0; room(3, 3) = 0; keep(3, 7, 3) = 0;",
            "scene(1, 0, 0, 0) = 0; scene(1, 2, 0, 0) = 1; scene(1, 0, 3, 0) = 2; scene(1, 1, 1, 1) = 3;",
            "ofRoom(0, 4) = 15; ofRoom(0, 5) = 0; ofRoom(2, 4) = 10; ofRoom(2, 5) = 4; ofRoom(3, 4) = 8;",
            "ofRoom(3, 5) = 0; keep(2, 0, 0) = 0; ofRoom(2, 5) = 5; ofRoom(2, 0) = 1; ofRoom(3, 1) = 7;",
            "ofRoom(3, 2) = 3; ofRoom(6, 0) = UNKNOWN; ofRoom(-1, 0) = UNKNOWN; ofRoom(0, 6) = OUTSIDE;",
            "ofRoom(0, -1) = OUTSIDE; ofRoom(6, 6) = UNKNOWN");
    }

    private static void levels() {
        CALLS.fresh("12 levelIn",
            "levelIn(0, 0) = UNKNOWN; scene(3, 0, 1, 2) = 0; scene(2, 1, 0, 3) = 1; levelIn(0, 0) = 3;",
            "levelIn(0, 1) = 0; levelIn(0, 2) = 1; levelIn(0, 3) = 2; levelIn(1, 0) = 2; levelIn(1, 3) = 3;",
            "levelIn(2, 0) = UNKNOWN; levelIn(-1, 0) = UNKNOWN; levelIn(0, 4) = UNKNOWN; levelIn(0, -1) = UNKNOWN;",
            "levelIn(1, -1) = UNKNOWN; levelIn(MIN, MAX) = UNKNOWN");
    }
}
