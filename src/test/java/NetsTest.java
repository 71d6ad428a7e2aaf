/** Promises 13 to 17: properties and faults of nets, mending, ways. */
public final class NetsTest {
    private static final Calls CALLS = new Calls("NetsTest");

    /** Room r is fed by supply r, for the rooms 1 to 3. */
    private static final String FED = "room(1, 1) = 0; room(2, 2) = 0; room(3, 3) = 0;";

    public static void main(String[] args) {
        faultsOfGuards();
        faultsOfLifts();
        countsOfFaults();
        needs();
        feeds();
        uselessParts();
        wrongProperties();
        mend();
        ways();
        waysThroughSleepingRooms();
        CALLS.end();
    }

    private static void faultsOfGuards() {
        CALLS.fresh("14 fault, guards", FED,
            "scene(1, 0, 2, 0) = 0; scene(1, 0, 0, 0) = 1; scene(1, 0, 2, 2) = 2; scene(1, 3, 0, 0) = 3;",
            "net(1, 2) = 0; fault(0, 0) = 1; fault(0, 1) = 0; fault(0, 2) = 1; fault(0, 3) = 0;",
            "guard(0, 0, 1) = 1; fault(0, 0) = 1; guard(0, 0, 3) = 1; fault(0, 0) = 1; fault(0, 2) = 0;",
            "fault(0, 1) = 0; guard(0, 1, 0) = 1; fault(0, 0) = 2; fault(0, 2) = 2; guard(0, 1, 2) = 1;",
            "fault(0, 0) = 0; fault(0, 2) = 0; ofNet(0, 9) = 0; open(0) = 1; ofNet(0, 9) = 5;",
            "fault(1, 0) = UNKNOWN; fault(-1, 0) = UNKNOWN; fault(0, 4) = UNKNOWN; fault(0, -1) = UNKNOWN");
    }

    private static void faultsOfLifts() {
        CALLS.fresh("14 fault, lifts", FED,
            "scene(2, 1, 0, 0) = 0; scene(2, 2, 0, 0) = 1; scene(2, 3, 0, 0) = 2; net(1, 0) = 0;",
            "fault(0, 0) = 3; fault(0, 1) = 0; fault(0, 2) = 4; lift(0, 1) = 0; fault(0, 0) = 0; fault(0, 2) = 4;",
            "lift(0, 2) = 1; fault(0, 0) = 3; fault(0, 2) = 0; lift(0, 3) = 2; fault(0, 0) = 0; fault(0, 1) = 0;",
            "fault(0, 2) = 0; lift(0, 0) = 3; guard(0, 0, 0) = 1; fault(0, 0) = 3; fault(0, 2) = 4; ofNet(0, 9) = 5");
    }

    private static void countsOfFaults() {
        CALLS.fresh("15 faults", FED,
            "faults(1) = 0; net(1, 0) = 0; net(0, 1) = 1; net(2, 0) = 2; guard(2, 0, 3) = 1; faults(1) = 0;",
            "scene(2, 0, 0, 1) = 0; scene(2, 1, 2, 1) = 1; scene(2, 3, 0, 0) = 2; scene(2, 2, 2, 2) = 3;",
            "faults(1) = 2; faults(2) = 1; faults(3) = 2; faults(4) = 2; faults(0) = OUTSIDE; faults(5) = OUTSIDE;",
            "faults(-1) = OUTSIDE; faults(MAX) = OUTSIDE; many(5) = 3");
    }

    private static void needs() {
        CALLS.fresh("13 needs", FED, "net(1, 0) = 0; net(0, 1) = 1; ofNet(0, 5) = 0; ofNet(0, 6) = 0;",
            "scene(2, 2, 0, 0) = 0; ofNet(0, 5) = 0; ofNet(0, 6) = 0; scene(2, 0, 0, 0) = 1; ofNet(0, 5) = 1;",
            "ofNet(0, 6) = 0; ofNet(1, 5) = 0; ofNet(1, 6) = 0; scene(2, 1, 0, 0) = 2; ofNet(0, 6) = 1;",
            "ofNet(1, 6) = 2; scene(2, 3, 0, 0) = 3; ofNet(0, 6) = 3; ofNet(1, 6) = 3; lift(0, 3) = 0;",
            "guard(0, 0, 0) = 1; ofNet(0, 5) = 1; ofNet(0, 6) = 3; ofNet(1, 5) = 0");
    }

    private static void feeds() {
        CALLS.fresh("13 feed", FED, "net(0, 3) = 0; net(0, 1) = 1; ofNet(0, 7) = 0; scene(2, 2, 2, 2) = 0;",
            "ofNet(0, 7) = 0; scene(1, 0, 2, 2) = 1; ofNet(0, 7) = 2; ofNet(1, 7) = 0; scene(1, 1, 3, 0) = 2;",
            "ofNet(0, 7) = 2; ofNet(1, 7) = 0; scene(1, 2, 3, 2) = 3; ofNet(0, 7) = 3; ofNet(1, 7) = 1");
        CALLS.fresh("13 feed, the first scene counts too", FED,
            "net(0, 1) = 0; scene(1, 2, 0, 0) = 0; ofNet(0, 7) = 1; scene(2, 2, 0, 0) = 1; ofNet(0, 7) = 1");
    }

    private static void uselessParts() {
        CALLS.fresh("13 useless parts", FED, "net(1, 0) = 0; ofNet(0, 8) = 0; lift(0, 3) = 0; guard(0, 1, 0) = 1;",
            "ofNet(0, 8) = 7; many(6) = 1; lift(0, 1) = 3; ofNet(0, 8) = 3; lift(0, 2) = 1; ofNet(0, 8) = 5;",
            "open(0) = 1; ofNet(0, 8) = 4; lift(0, 3) = 2; scene(2, 1, 0, 0) = 0; ofNet(0, 8) = 4;",
            "scene(2, 3, 0, 0) = 1; ofNet(0, 8) = 0; guard(0, 0, 0) = 1; ofNet(0, 8) = 1; scene(2, 0, 0, 0) = 2;",
            "ofNet(0, 8) = 0; lift(0, 0) = 3; ofNet(0, 8) = 0; many(6) = 0");
    }

    private static void wrongProperties() {
        CALLS.fresh("13 ofNet, wrong", "ofNet(0, 10) = UNKNOWN; net(2, 4) = 0; ofNet(0, 10) = OUTSIDE;",
            "ofNet(0, -1) = OUTSIDE; ofNet(1, 0) = UNKNOWN; ofNet(-1, 10) = UNKNOWN; ofNet(0, 0) = 2; ofNet(0, 1) = 4");
    }

    private static void mend() {
        CALLS.fresh("16 mend", FED,
            "scene(2, 0, 2, 0) = 0; scene(2, 1, 1, 0) = 1; scene(2, 3, 2, 0) = 2;",
            "net(1, 0) = 0; net(0, 1) = 1; net(1, 2) = 2; net(3, 4) = 3; net(4, 5) = 4; net(5, 4) = 5;",
            "guard(1, 1, 1) = 1; guard(2, 1, 0) = 1; guard(3, 1, 0) = 1; lift(4, 3) = 0; lift(2, 2) = 0;",
            "mend() = 4; many(5) = 0; many(6) = 0; many(2) = 3; mend() = 0;",
            "ofNet(0, 2) = 0; ofNet(0, 3) = 0; ofNet(0, 4) = 3; ofNet(1, 2) = NONE; ofNet(1, 3) = NONE;",
            "ofNet(1, 4) = 3; ofNet(2, 2) = 1; ofNet(2, 3) = 2; ofNet(2, 4) = 2; ofNet(3, 2) = 1;",
            "ofNet(3, 3) = 0; ofNet(3, 4) = 0; ofNet(4, 4) = 0; ofNet(5, 4) = 0");
        CALLS.fresh("16 mend, a guard goes and its value is forgotten", FED,
            "net(1, 0) = 0; guard(0, 1, 0) = 1; mend() = 1; ofNet(0, 2) = NONE; scene(1, 0, 0, 0) = 0;",
            "mend() = 1; ofNet(0, 2) = 0; guard(0, 1, 1) = 1; mend() = 1; ofNet(0, 2) = 1; ofNet(0, 3) = 0");
    }

    private static void ways() {
        CALLS.fresh("17 way",
            "way(0, 1, NONE) = NONE; way(0, 1, 0) = NONE; near(0, 1, 1) = 0; way(0, 1, NONE) = 2; way(0, 1, 0) = 0;",
            "way(0, 1, 1) = 1; way(0, 1, 2) = NONE; way(1, 0, 0) = 1; way(1, 0, 1) = 0;",
            "near(1, 2, 1) = 0; near(2, 3, 1) = 0; near(3, 4, 1) = 0; near(4, 5, 1) = 0; way(0, 5, NONE) = 6;",
            "way(0, 5, 0) = 0; way(0, 5, 1) = 1; way(0, 5, 2) = 2; way(0, 5, 3) = 3; way(0, 5, 4) = 4;",
            "way(0, 5, 5) = 5; near(0, 4, 1) = 0; way(0, 5, NONE) = 3; way(0, 5, 1) = 4; way(0, 5, 3) = NONE");
        CALLS.fresh("17 way, the smallest of the shortest",
            "near(5, 4, 1) = 0; near(4, 1, 1) = 0; near(1, 0, 1) = 0; near(5, 2, 1) = 0; near(2, 3, 1) = 0;",
            "near(3, 0, 1) = 0; way(5, 0, NONE) = 4; way(5, 0, 1) = 2; way(5, 0, 2) = 3; way(0, 5, 1) = 1;",
            "way(0, 5, 2) = 4");
        CALLS.fresh("17 way, wrong",
            "way(6, 0, 0) = UNKNOWN; way(0, 6, 0) = UNKNOWN; way(-1, 0, 0) = UNKNOWN; way(0, -1, 0) = UNKNOWN;",
            "way(6, 6, 6) = UNKNOWN; way(0, 1, 6) = OUTSIDE; way(0, 1, -1) = OUTSIDE; way(0, 1, -8) = OUTSIDE;",
            "way(0, 1, -10) = OUTSIDE; way(2, 2, 6) = OUTSIDE; way(2, 2, 0) = STATE; way(2, 2, NONE) = STATE");
    }

    private static void waysThroughSleepingRooms() {
        CALLS.fresh("17 way, rooms between must be on", FED,
            "near(0, 1, 1) = 0; near(1, 2, 1) = 0; scene(1, 1, 1, 0) = 0; way(0, 2, NONE) = 3;",
            "scene(1, 1, 0, 0) = 1; way(0, 2, NONE) = 3; scene(1, 0, 0, 0) = 2; way(0, 2, NONE) = 3;",
            "way(2, 0, NONE) = NONE; way(1, 0, NONE) = 2; scene(1, 0, 1, 0) = 3; way(0, 2, NONE) = NONE;",
            "near(0, 4, 1) = 0; near(4, 5, 1) = 0; near(5, 2, 1) = 0; way(0, 2, NONE) = 4; way(0, 2, 1) = 4;",
            "way(0, 2, 2) = 5; way(3, 2, NONE) = NONE; near(3, 1, 1) = 0; way(2, 3, NONE) = 3;",
            "scene(1, 0, 0, 2) = 4; way(2, 3, NONE) = NONE; way(1, 3, NONE) = 2");
        CALLS.fresh("17 way, room 0 between", FED,
            "near(4, 0, 1) = 0; near(0, 5, 1) = 0; scene(1, 1, 0, 0) = 0; way(4, 5, NONE) = 3; room(0, 2) = 0;",
            "way(4, 5, NONE) = NONE; room(5, 3) = 0; way(4, 5, NONE) = 3; way(4, 5, 1) = 0");
    }
}
