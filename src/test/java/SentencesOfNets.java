/** Promises 13 to 17, and the description's paragraphs on faults, needs, useless parts and ways. */
final class SentencesOfNets {
    /** Net 0, for which supply 1 has the level a, and supply 2 the level b; its guard is fed by supply 3. */
    private static final String A_TO_B = "room(1, 1) = 0; room(2, 2) = 0; net(1, 2) = 0;";

    /** Room 1 sleeps in all of eight scenes, room 0 in none. */
    private static final String EIGHT_ASLEEP = "room(1, 1) = 0; scene(1, 0, 0, 0..3) = 0..3; scene(2, 0, 0, 0..3) = 4..7;";

    private static final String CHAIN = "near(0, 1, 1) = 0; near(1, 2, 1) = 0; near(2, 3, 1) = 0; near(3, 4, 1) = 0;"
        + "near(4, 5, 1) = 0;";

    private final Sentences s;

    private SentencesOfNets(Sentences s) {
        this.s = s;
    }

    static void tell(Sentences sentences) {
        SentencesOfNets nets = new SentencesOfNets(sentences);
        nets.faultsOfGuards();
        nets.faultsOfLifts();
        nets.needs();
        nets.feed();
        nets.uselessParts();
        nets.ways();
        nets.p13OfNet();
        nets.p13OfNetDerived();
        nets.p13OfNetRefused();
        nets.p14Fault();
        nets.p15Faults();
        nets.p16Mend();
        nets.p17Way();
        nets.p17WayRefused();
    }

    private void faultsOfGuards() {
        s.says(14, "The fault of a net in a scene, where a is the level of the room from which it comes, and b that of the room to which it goes, is the first of these that applies",
            A_TO_B, "scene(1, 0, 0, 0) = 0; scene(1, 2, 0, 0) = 1; scene(1, 0, 3, 0) = 2; scene(1, 0, 3, 2) = 3;",
            "scene(1, 2, 3, 0) = 4; scene(1, 3, 2, 0) = 5; fault(0, 0..1) = 0; fault(0, 2..3) = 1; fault(0, 4) = 3;",
            "fault(0, 5) = 4; guard(0, 0, 3) = 1; fault(0, 0..1) = 0; fault(0, 2) = 1; fault(0, 3) = 2; fault(0, 4) = 3;",
            "fault(0, 5) = 4; guard(0, 0, 2) = 1; fault(0, 0..3) = 0; fault(0, 4) = 3; fault(0, 5) = 4; net(2, 1) = 1;",
            "fault(1, 0) = 0; fault(1, 1) = 1; fault(1, 2..3) = 0; fault(1, 4) = 4; fault(1, 5) = 3");
        s.says(14, "0 if b is 0.",
            A_TO_B, "scene(1, 0, 0, 0) = 0; scene(1, 1, 0, 0) = 1; scene(2, 2, 0, 0) = 2; scene(3, 3, 0, 3) = 3;",
            "fault(0, 0..3) = 0; guard(0, 0, 1) = 1; fault(0, 0..3) = 0; guard(0, 1, 3) = 1; fault(0, 0..3) = 0;",
            "lift(0, 1) = 0; fault(0, 0..3) = 0; lift(0, 2) = 1; fault(0, 0..3) = 0; lift(0, 3) = 2; fault(0, 0..3) = 0;",
            "scene(1, 0, 1, 0) = 4; fault(0, 4) = 1");
        s.says(14, "1 if a is 0 and the net has no guard, or one whose supply has level 0.",
            A_TO_B, "scene(1, 0, 1, 0) = 0; scene(1, 0, 2, 0) = 1; scene(1, 0, 3, 0) = 2; scene(1, 0, 3, 3) = 3;",
            "scene(1, 1, 1, 0) = 4; fault(0, 0..3) = 1; fault(0, 4) = 0; lift(0, 3) = 0; fault(0, 0..3) = 1;",
            "guard(0, 0, 1) = 1; fault(0, 0..3) = 1; guard(0, 1, 3) = 1; fault(0, 0..2) = 1; fault(0, 3) = 0;",
            "fault(0, 4) = 0; open(0) = 1; fault(0, 0..3) = 1");
        s.says(14, "2 if a is 0 and the level of the guard's supply is not b.",
            A_TO_B, "guard(0, 1, 3) = 1; scene(1, 0, 1, 1) = 0; scene(1, 0, 1, 2) = 1; scene(1, 0, 1, 3) = 2;",
            "scene(1, 0, 2, 1) = 3; scene(1, 0, 2, 2) = 4; scene(1, 0, 2, 3) = 5; scene(1, 0, 3, 1) = 6;",
            "scene(1, 0, 3, 3) = 7; fault(0, 0) = 0; fault(0, 1..3) = 2; fault(0, 4) = 0; fault(0, 5..6) = 2;",
            "fault(0, 7) = 0; lift(0, 3) = 0; fault(0, 0) = 0; fault(0, 1..3) = 2; fault(0, 4) = 0; fault(0, 5..6) = 2;",
            "fault(0, 7) = 0; guard(0, 0, 0) = 1; fault(0, 0..2) = 0; fault(0, 3..7) = 2; guard(0, 0, 2) = 1;",
            "fault(0, 0..7) = 0");
        s.says(14, "2 if a is 0 and the level of the guard's supply is not b.",
            A_TO_B, "guard(0, 1, 3) = 1; scene(1, 1, 1, 2) = 0; fault(0, 0) = 0; scene(1, 0, 0, 2) = 1; fault(0, 1) = 0;",
            "scene(1, 0, 1, 2) = 2; fault(0, 2) = 2; scene(1, 0, 1, 0) = 3; fault(0, 3) = 1");
    }

    private void faultsOfLifts() {
        s.says(14, "3 if a > 0, a < b, and the lift is 0 or 2.",
            A_TO_B, "scene(1, 1, 1, 0) = 0; scene(1, 2, 2, 0) = 1; scene(1, 3, 3, 0) = 2; scene(1, 1, 2, 0) = 3;",
            "scene(1, 1, 3, 0) = 4; scene(1, 2, 3, 0) = 5; scene(1, 0, 1, 0) = 6; scene(1, 0, 3, 3) = 7;",
            "fault(0, 0..2) = 0; fault(0, 3..5) = 3; fault(0, 6..7) = 1; lift(0, 1) = 0; fault(0, 0..5) = 0;",
            "fault(0, 6) = 1; lift(0, 2) = 1; fault(0, 0..2) = 0; fault(0, 3..5) = 3; lift(0, 3) = 2; fault(0, 0..5) = 0;",
            "lift(0, 0) = 3; guard(0, 0, 3) = 1; fault(0, 0..2) = 0; fault(0, 3..5) = 3; fault(0, 6) = 1; fault(0, 7) = 0");
        s.says(14, "4 if a > b, and the lift is 0 or 1.",
            A_TO_B, "scene(1, 1, 1, 0) = 0; scene(1, 2, 2, 0) = 1; scene(1, 3, 3, 0) = 2; scene(1, 2, 1, 0) = 3;",
            "scene(1, 3, 1, 0) = 4; scene(1, 3, 2, 0) = 5; scene(1, 1, 0, 0) = 6; scene(1, 3, 0, 3) = 7;",
            "fault(0, 0..2) = 0; fault(0, 3..5) = 4; fault(0, 6..7) = 0; lift(0, 1) = 0; fault(0, 0..2) = 0;",
            "fault(0, 3..5) = 4; fault(0, 6..7) = 0; lift(0, 2) = 1; fault(0, 0..7) = 0; lift(0, 3) = 2;",
            "fault(0, 0..7) = 0; lift(0, 0) = 3; guard(0, 0, 3) = 1; fault(0, 0..2) = 0; fault(0, 3..5) = 4;",
            "fault(0, 6..7) = 0");
        s.says(14, "0 otherwise.",
            A_TO_B, "scene(1, 1, 1, 0) = 0; scene(1, 2, 2, 0) = 1; scene(1, 3, 3, 0) = 2; scene(1, 1, 3, 0) = 3;",
            "scene(1, 3, 1, 0) = 4; scene(1, 0, 2, 2) = 5; guard(0, 0, 3) = 1; fault(0, 0..2) = 0; fault(0, 5) = 0;",
            "lift(0, 1) = 0; fault(0, 0..3) = 0; fault(0, 4) = 4; fault(0, 5) = 0; lift(0, 2) = 1; fault(0, 0..2) = 0;",
            "fault(0, 3) = 3; fault(0, 4..5) = 0; lift(0, 3) = 2; fault(0, 0..5) = 0");
    }

    private void needs() {
        s.says(13, "A net needs a guard if there is a scene with a = 0 and b > 0.",
            A_TO_B, "ofNet(0, 5) = 0; scene(1, 0, 0, 0) = 0; ofNet(0, 5) = 0; scene(1, 3, 0, 0) = 1; ofNet(0, 5) = 0;",
            "scene(1, 3, 3, 0) = 2; ofNet(0, 5) = 0; scene(1, 1, 3, 0) = 3; ofNet(0, 5) = 0; scene(1, 3, 1, 0) = 4;",
            "ofNet(0, 5) = 0; scene(1, 1, 1, 3) = 5; scene(1, 2, 2, 3) = 6; ofNet(0, 5) = 0; scene(1, 0, 1, 0) = 7;",
            "ofNet(0, 5) = 1; ofNet(0, 2) = NONE; guard(0, 0, 0) = 1; ofNet(0, 5) = 1");
        s.says(13, "A net needs a guard if there is a scene with a = 0 and b > 0.",
            A_TO_B,
            "scene(1, 0, 3, 0) = 0; ofNet(0, 5) = 1; scene(1, 3, 3, 0) = 1; scene(1, 0, 0, 0) = 2; ofNet(0, 5) = 1;",
            "net(2, 1) = 1; ofNet(1, 5) = 0");
        s.says(13, "It needs a lift up if there is a scene with 0 < a < b, and a lift down if there is one with a > b > 0.",
            A_TO_B, "ofNet(0, 6) = 0; scene(1, 0, 3, 0) = 0; ofNet(0, 6) = 0; scene(1, 2, 2, 0) = 1; ofNet(0, 6) = 0;",
            "scene(1, 3, 0, 0) = 2; ofNet(0, 6) = 0; scene(1, 1, 2, 0) = 3; ofNet(0, 6) = 1; scene(1, 2, 3, 0) = 4;",
            "ofNet(0, 6) = 1; scene(1, 2, 1, 0) = 5; ofNet(0, 6) = 3; lift(0, 3) = 0; ofNet(0, 6) = 3");
        s.says(13, "a lift down if there is one with a > b > 0.",
            A_TO_B,
            "scene(1, 3, 0, 0) = 0; ofNet(0, 6) = 0; scene(1, 3, 2, 0) = 1; ofNet(0, 6) = 2; scene(1, 2, 1, 0) = 2;",
            "ofNet(0, 6) = 2; net(2, 1) = 1; ofNet(1, 6) = 1");
    }

    private void feed() {
        s.says(13, "The feed of a net is the lowest supply that has, in each scene with b > 0, the level b.",
            "room(2, 3) = 0; net(1, 2) = 0; ofNet(0, 7) = 0; scene(3, 3, 3, 0) = 0; ofNet(0, 7) = 0;",
            "scene(1, 1, 1, 1) = 1; ofNet(0, 7) = 0; scene(1, 2, 2, 2) = 2; ofNet(0, 7) = 1; scene(1, 1, 3, 3) = 3;",
            "ofNet(0, 7) = 2; scene(1, 1, 1, 3) = 4; ofNet(0, 7) = 3; scene(2, 2, 2, 0) = 5; ofNet(0, 7) = 3;",
            "net(2, 1) = 1; ofNet(1, 7) = 0; room(2, 0) = 3; ofNet(0, 7) = 0");
        s.says(13, "The feed of a net is the lowest supply that has, in each scene with b > 0, the level b.",
            A_TO_B,
            "scene(1, 0, 2, 2) = 0; ofNet(0, 7) = 2; scene(1, 0, 3, 0) = 1; ofNet(0, 7) = 2; scene(1, 2, 0, 2) = 2;",
            "ofNet(0, 7) = 2; room(2, 3) = 2; ofNet(0, 7) = 3; room(2, 1) = 3; ofNet(0, 7) = 1");
        s.says(13, "The feed of a net is the lowest supply that has, in each scene with b > 0, the level b.",
            "room(2, 3) = 0; net(1, 2) = 0; scene(2, 2, 1, 1) = 0; ofNet(0, 7) = 2; scene(2, 1, 1, 0) = 1; ofNet(0, 7) = 2;",
            "scene(1, 1, 2, 1) = 2; ofNet(0, 7) = 3; anew() = 1; room(2, 3) = 0; net(1, 2) = 0; scene(1, 2, 2, 1) = 0;",
            "ofNet(0, 7) = 0; scene(3, 1, 1, 1) = 1; ofNet(0, 7) = 3");
        s.says(13, "The feed of a net is the lowest supply that has, in each scene with b > 0, the level b.",
            A_TO_B, "net(1, 2) = 1..15; scene(1, 0, 2, 0) = 0; ofNet(0..15, 7) = 2; mend() = 16; ofNet(0..15, 3) = 2;",
            "room(2, 3) = 2; scene(1, 0, 2, 3) = 1; ofNet(0..15, 7) = 3; mend() = 16; ofNet(0..15, 3) = 3");
    }

    private void uselessParts() {
        String parts = "A net has useless parts, which are the sum of 1 if it has a guard that it does not need, 2 if its lift is 1 or 3 but it does not need a lift up, and 4 if its lift is 2 or 3 but it does not need a lift down.";
        s.says(13, parts,
            A_TO_B,
            "ofNet(0, 8) = 0; guard(0, 0, 0) = 1; ofNet(0, 8) = 1; lift(0, 1) = 0; ofNet(0, 8) = 3; lift(0, 2) = 1;",
            "ofNet(0, 8) = 5; lift(0, 3) = 2; ofNet(0, 8) = 7; open(0) = 1; ofNet(0, 8) = 6; lift(0, 1) = 3;",
            "ofNet(0, 8) = 2; lift(0, 2) = 1; ofNet(0, 8) = 4; lift(0, 0) = 2; ofNet(0, 8) = 0");
        s.says(13, parts,
            A_TO_B, "guard(0, 1, 0) = 1; lift(0, 3) = 0; scene(1, 0, 1, 0) = 0; ofNet(0, 8) = 6; scene(1, 1, 2, 0) = 1;",
            "ofNet(0, 8) = 4; scene(1, 2, 1, 0) = 2; ofNet(0, 8) = 0; lift(0, 0) = 3; open(0) = 1; ofNet(0, 8) = 0;",
            "many(6) = 0");
        s.says(28, parts,
            A_TO_B, "net(2, 1) = 1; many(6) = 0; guard(0, 0, 0) = 1; many(6) = 1; lift(1, 2) = 0; many(6) = 2;",
            "scene(1, 0, 1, 0) = 0; many(6) = 1; scene(1, 1, 2, 0) = 1; many(6) = 0");
    }

    private void ways() {
        String way = "A way from a room to another one is a sequence of different rooms, beginning with the one and ending with the other one, each a neighbour of the one before it, such that each room between them is on in every scene in which the last one is on.";
        s.says(17, way,
            "way(0, 5, ..) = none;",
            CHAIN, "way(0, 5, ..) = 0 1 2 3 4 5; way(5, 0, ..) = 5 4 3 2 1 0; way(2, 4, ..) = 2 3 4; way(3, 2, ..) = 3 2;",
            "near(3, 2, 0) = 1; way(0, 5, ..) = none; way(0, 2, ..) = 0 1 2; way(5, 3, ..) = 5 4 3; way(3, 2, ..) = none");
        s.says(17, "each room between them is on in every scene in which the last one is on",
            "near(0, 1, 1) = 0; near(1, 2, 1) = 0; room(1, 1) = 0; way(0, 2, ..) = 0 1 2; scene(1, 1, 0, 0) = 0;",
            "way(0, 2, ..) = 0 1 2; scene(1, 0, 0, 0) = 1; way(0, 2, ..) = none; way(0, 1, ..) = 0 1; way(1, 0, ..) = 1 0;",
            "room(2, 1) = 0; way(0, 2, ..) = 0 1 2; way(2, 0, ..) = none; way(2, 1, ..) = 2 1; room(2, 2) = 1;",
            "way(0, 2, ..) = 0 1 2; scene(1, 0, 1, 0) = 2; way(0, 2, ..) = none");
        s.says(17, "each room between them is on in every scene in which the last one is on",
            "near(4, 0, 1) = 0; near(0, 5, 1) = 0; room(4, 1) = 0; scene(1, 0, 0, 0) = 0; way(4, 5, ..) = 4 0 5;",
            "way(5, 4, ..) = 5 0 4; room(0, 1) = 0; way(4, 5, ..) = none; way(5, 4, ..) = 5 0 4; scene(1, 0, 3, 3) = 1;",
            "scene(3, 3, 0, 0) = 2; room(0, 2) = 1; way(5, 4, ..) = none; room(4, 3) = 1; way(5, 4, ..) = 5 0 4");
        String fewest = "Only the way with the fewest rooms is considered, of several the lexicographically smallest one.";
        s.says(17, fewest,
            "near(0, 1, 1) = 0; near(1, 2, 1) = 0; near(2, 3, 1) = 0; way(0, 3, ..) = 0 1 2 3; near(0, 5, 1) = 0;",
            "near(5, 3, 1) = 0; way(0, 3, ..) = 0 5 3; near(0, 4, 1) = 0; near(4, 3, 1) = 0; way(0, 3, ..) = 0 4 3;",
            "near(1, 3, 1) = 0; way(0, 3, ..) = 0 1 3; near(0, 3, 1) = 0; way(0, 3, ..) = 0 3; way(3, 0, ..) = 3 0");
        s.says(17, fewest,
            "near(0, 1, 1) = 0; near(0, 2, 1) = 0; near(1, 4, 1) = 0; near(2, 3, 1) = 0; near(3, 5, 1) = 0;",
            "near(4, 5, 1) = 0; way(0, 5, ..) = 0 1 4 5; way(5, 0, ..) = 5 3 2 0; near(1, 3, 1) = 0;",
            "way(0, 5, ..) = 0 1 3 5; way(5, 0, ..) = 5 3 1 0; room(3, 1) = 0; scene(1, 0, 0, 0) = 0;",
            "way(0, 5, ..) = 0 1 4 5; way(5, 0, ..) = 5 4 1 0; way(2, 4, ..) = 2 0 1 4; near(1, 4, 0) = 1;",
            "way(0, 5, ..) = none");
    }

    private void p13OfNet() {
        s.says(13, "Returns a property of a net.",
            A_TO_B,
            "guard(0, 1, 3) = 1; lift(0, 2) = 0; scene(1, 0, 1, 2) = 0; ofNet(0, 0) = 1; ofNet(0, 1) = 2; ofNet(0, 2) = 1;",
            "ofNet(0, 3) = 3; ofNet(0, 4) = 2; ofNet(0, 5) = 1; ofNet(0, 6) = 0; ofNet(0, 7) = 0; ofNet(0, 8) = 4;",
            "ofNet(0, 9) = 1");
        s.says(13, "`n`: number of the net",
            "ofNet(0, 0) = UNKNOWN; net(4, 0) = 0; ofNet(0, 0) = 4; ofNet(1, 0) = UNKNOWN; net(3, 1) = 1..15;",
            "ofNet(0, 0) = 4; ofNet(1..15, 0) = 3; ofNet(!0..15, 0) = UNKNOWN");
        s.says(13, "`what`: 0: the room from which it comes",
            "net(0, 5) = 0; net(5, 0) = 1; ofNet(0, 0) = 0; ofNet(1, 0) = 5");
        s.says(13, "1: the room to which it goes", "net(0, 5) = 0; net(5, 0) = 1; ofNet(0, 1) = 5; ofNet(1, 1) = 0");
        s.says(13, "2: the value of its guard (NONE if it has none)",
            "net(0, 5) = 0; ofNet(0, 2) = NONE; guard(0, 0, 3) = 1; ofNet(0, 2) = 0; guard(0, 1, 0) = 1; ofNet(0, 2) = 1;",
            "open(0) = 1; ofNet(0, 2) = NONE");
        s.says(13, "3: the supply of its guard (NONE if it has none)",
            "net(0, 5) = 0; ofNet(0, 3) = NONE; guard(0, 1, 0) = 1; ofNet(0, 3) = 0; guard(0, 0, 3) = 1; ofNet(0, 3) = 3;",
            "open(0) = 1; ofNet(0, 3) = NONE");
        s.says(13, "4: lift",
            "net(0, 5) = 0; ofNet(0, 4) = 0; lift(0, 3) = 0; ofNet(0, 4) = 3; lift(0, 0) = 3; ofNet(0, 4) = 0");
    }

    private void p13OfNetDerived() {
        s.says(13, "5: 1 if it needs a guard, else 0",
            A_TO_B, "net(2, 1) = 1; ofNet(0..1, 5) = 0; scene(1, 0, 3, 0) = 0; ofNet(0, 5) = 1; ofNet(1, 5) = 0;",
            "scene(1, 3, 0, 0) = 1; ofNet(1, 5) = 1; room(1, 2) = 1; ofNet(0..1, 5) = 0");
        s.says(13, "6: the lift that it needs, 0 to 3",
            A_TO_B, "net(2, 1) = 1; ofNet(0..1, 6) = 0; scene(1, 1, 3, 0) = 0; ofNet(0, 6) = 1; ofNet(1, 6) = 2;",
            "scene(1, 3, 1, 0) = 1; ofNet(0..1, 6) = 3; ofNet(0..1, 4) = 0; room(1, 2) = 1; ofNet(0..1, 6) = 0");
        s.says(13, "7: its feed",
            A_TO_B,
            "net(2, 1) = 1; ofNet(0..1, 7) = 0; scene(1, 3, 2, 0) = 0; ofNet(0, 7) = 2; ofNet(1, 7) = 1; room(1, 3) = 1;",
            "ofNet(1, 7) = 0");
        s.says(13, "8: its useless parts",
            A_TO_B,
            "ofNet(0, 8) = 0; guard(0, 1, 3) = 1; lift(0, 3) = 0; ofNet(0, 8) = 7; scene(1, 0, 3, 0) = 0; ofNet(0, 8) = 6;",
            "scene(1, 1, 3, 0) = 1; ofNet(0, 8) = 4; scene(1, 3, 1, 0) = 2; ofNet(0, 8) = 0");
        s.says(13, "9: the set of the scenes in which its fault is not 0",
            "net(1, 0) = 0; ofNet(0, 9) = 0;",
            EIGHT_ASLEEP, "ofNet(0, 9) = 255; guard(0, 0, 3) = 1; ofNet(0, 9) = 189; guard(0, 0, 0) = 1; ofNet(0, 9) = 0;",
            "room(1, 3) = 1; ofNet(0, 9) = 172; anew() = 1; net(1, 0) = 0; ofNet(0, 9) = 0");
        s.says(13, "9: the set of the scenes in which its fault is not 0",
            A_TO_B, "scene(1, 1, 2, 0) = 0; scene(1, 1, 0, 0) = 1; scene(1, 2, 1, 0) = 2; scene(1, 1, 1, 0) = 3;",
            "scene(1, 0, 1, 0) = 4; ofNet(0, 9) = 21; lift(0, 1) = 0; ofNet(0, 9) = 20; guard(0, 0, 2) = 1;",
            "ofNet(0, 9) = 4; lift(0, 3) = 1; ofNet(0, 9) = 0");
        s.says(13, "Returns the property",
            "net(3, 5) = 0; ofNet(0, 0) = 3; ofNet(0, 1) = 5; ofNet(0, 2..3) = NONE; ofNet(0, 4..9) = 0");
    }

    private void p13OfNetRefused() {
        s.says(13, "UNKNOWN if there is no such net",
            "ofNet(0, 0..9) = UNKNOWN; ofNet(0, 10) = UNKNOWN; net(0, 1) = 0; net(0, 1) = 1; ofNet(!0..1, 0) = UNKNOWN;",
            "ofNet(!0..1, 9) = UNKNOWN; ofNet(!0..1, 2) = UNKNOWN; ofNet(!0..1, 10) = UNKNOWN; ofNet(2, -1) = UNKNOWN;",
            "ofNet(MIN, MIN) = UNKNOWN; ofNet(MAX, MAX) = UNKNOWN; anew() = 2; ofNet(0, 0) = UNKNOWN");
        s.says(13, "OUTSIDE if what is out of range",
            "net(0, 1) = 0; ofNet(0, !0..9) = OUTSIDE; net(0, 1) = 1..15; ofNet(15, !0..9) = OUTSIDE; ofNet(15, 0) = 0;",
            "ofNet(15, 9) = 0");
    }

    private void p14Fault() {
        s.says(14, "Returns the fault of a net in a scene.",
            A_TO_B, "net(2, 1) = 1; scene(1, 0, 3, 0) = 0; scene(1, 1, 3, 0) = 1; fault(0, 0) = 1; fault(0, 1) = 3;",
            "fault(1, 0) = 0; fault(1, 1) = 4; guard(0, 0, 0) = 1; fault(0, 0) = 2");
        s.says(14, "`n`: number of the net",
            "scene(1, 0, 0, 0) = 0; fault(0, 0) = UNKNOWN; net(0, 1) = 0; fault(0, 0) = 0; fault(1, 0) = UNKNOWN;",
            "room(1, 1) = 0; net(1, 0) = 1..15; fault(0, 0) = 0; fault(1..15, 0) = 1; fault(!0..15, 0) = UNKNOWN");
        s.says(14, "`scene`: number of the scene",
            "net(1, 0) = 0; fault(0, 0) = UNKNOWN;",
            EIGHT_ASLEEP, "fault(0, 0..7) = 1; fault(0, !0..7) = UNKNOWN");
        s.says(14, "Returns the fault, 0 to 4",
            A_TO_B, "scene(1, 1, 1, 0) = 0; scene(1, 0, 1, 0) = 1; scene(1, 0, 1, 3) = 2; scene(1, 1, 3, 0) = 3;",
            "scene(1, 3, 1, 0) = 4; guard(0, 0, 3) = 1; fault(0, 0..4) = 0..4");
        s.says(14, "UNKNOWN if there is no such net or scene",
            "fault(0, 0) = UNKNOWN; net(1, 0) = 0; fault(0, 0) = UNKNOWN; scene(1, 1, 1, 1) = 0; scene(2, 2, 2, 2) = 1;",
            "fault(!0..0, 0) = UNKNOWN; fault(!0..0, 1) = UNKNOWN; fault(0, !0..1) = UNKNOWN; fault(1, 2) = UNKNOWN;",
            "fault(MIN, MIN) = UNKNOWN; fault(MAX, MAX) = UNKNOWN; fault(0, 0..1) = 0; anew() = 1; fault(0, 0) = UNKNOWN;",
            "scene(1, 1, 1, 1) = 0; fault(0, 0) = UNKNOWN");
    }

    private void p15Faults() {
        s.says(15, "Counts the pairs of a net and a scene with a certain fault.",
            "faults(1..4) = 0; net(1, 0) = 0..15; faults(1..4) = 0;",
            EIGHT_ASLEEP,
            "faults(1) = 128; faults(2..4) = 0; guard(0..15, 0, 3) = 1; faults(1) = 32; faults(2) = 64; faults(3..4) = 0;",
            "guard(0, 0, 0) = 1; faults(1) = 30; faults(2) = 60; room(1, 3) = 1; faults(1) = 30; faults(2) = 0;",
            "faults(3) = 16; faults(4) = 48");
        s.says(15, "`f`: the fault, 1 to 4",
            A_TO_B, "scene(1, 1, 1, 0) = 0; scene(1, 0, 1, 0) = 1; scene(1, 0, 1, 3) = 2; scene(1, 1, 3, 0) = 3;",
            "scene(1, 3, 1, 0) = 4; guard(0, 0, 3) = 1; faults(1..4) = 1; scene(1, 0, 2, 3) = 5; faults(2) = 2;",
            "faults(!1..4) = OUTSIDE; faults(0) = OUTSIDE; faults(5) = OUTSIDE");
        s.says(15, "Returns the number of pairs",
            "scene(1, 0, 0, 0) = 0; faults(1..4) = 0; net(1, 0) = 0; room(1, 1) = 0; faults(1) = 1; net(1, 2) = 1;",
            "faults(1) = 2; scene(2, 0, 0, 0) = 1; faults(1) = 4; open(0) = 0; guard(0, 0, 0) = 1; faults(1) = 2");
        s.says(15, "OUTSIDE if f is out of range",
            "faults(!1..4) = OUTSIDE; net(1, 0) = 0; scene(1, 1, 1, 1) = 0; faults(!1..4) = OUTSIDE; faults(0) = OUTSIDE;",
            "faults(MIN) = OUTSIDE; faults(MAX) = OUTSIDE");
    }

    private void p16Mend() {
        s.says(16, "Gives all nets exactly what they need: a net that needs a guard gets one with the value that its guard had (0 if it had none), fed by its feed",
            "mend() = 0;",
            A_TO_B,
            "net(1, 2) = 1; net(1, 2) = 2; scene(1, 0, 2, 0) = 0; guard(1, 1, 0) = 1; guard(2, 0, 3) = 1; mend() = 3;",
            "ofNet(0, 2) = 0; ofNet(0, 3) = 2; ofNet(1, 2) = 1; ofNet(1, 3) = 2; ofNet(2, 2) = 0; ofNet(2, 3) = 2;",
            "mend() = 0; scene(3, 0, 0, 3) = 1; mend() = 0; room(2, 3) = 2; mend() = 3; ofNet(0..2, 3) = 0;",
            "scene(1, 0, 0, 3) = 2; mend() = 3; ofNet(0..2, 3) = 3; ofNet(0, 2) = 0; ofNet(1, 2) = 1; many(5) = 0");
        s.says(16, "a net that needs a guard gets one with the value that its guard had (0 if it had none), fed by its feed",
            A_TO_B, "scene(1, 0, 2, 0) = 0; guard(0, 1, 0) = 1; open(0) = 1; mend() = 1; ofNet(0, 2) = 0; ofNet(0, 3) = 2;",
            "guard(0, 1, 2) = 1; mend() = 0; ofNet(0, 2) = 1; room(1, 2) = 1; mend() = 1; ofNet(0, 2) = NONE;",
            "room(1, 1) = 2; mend() = 1; ofNet(0, 2) = 0; ofNet(0, 3) = 2");
        s.says(16, "other nets have no guard after that",
            A_TO_B,
            "net(2, 1) = 1; guard(0..1, 1, 0) = 1; mend() = 2; many(2) = 0; ofNet(0..1, 2) = NONE; ofNet(0..1, 3) = NONE;",
            "scene(1, 0, 2, 0) = 0; guard(0..1, 1, 2) = 1; mend() = 1; ofNet(0, 2) = 1; ofNet(0, 3) = 2;",
            "ofNet(1, 2) = NONE; many(2) = 1; many(6) = 0");
        s.says(16, "each net gets the lift that it needs.",
            A_TO_B,
            "net(2, 1) = 1; net(0, 3) = 2; lift(0..2, 3) = 0; mend() = 3; ofNet(0..2, 4) = 0; scene(1, 1, 2, 0) = 0;",
            "mend() = 2; ofNet(0, 4) = 1; ofNet(1, 4) = 2; ofNet(2, 4) = 0; scene(1, 3, 2, 0) = 1; mend() = 2;",
            "ofNet(0..1, 4) = 3; ofNet(2, 4) = 0; many(2) = 0");
        s.says(16, "Returns the number of nets that become different by this.",
            "mend() = 0; net(1, 0) = 0..15; mend() = 0; scene(1, 0, 0, 0) = 0; mend() = 0; room(1, 1) = 0; mend() = 16;",
            "many(2) = 16; mend() = 0; open(0) = 1; lift(15, 3) = 0; guard(7, 1, 0) = 1; mend() = 2; ofNet(7, 2) = 1;",
            "guard(3, 0, 1) = 1; lift(3, 1) = 0; mend() = 1; open(5) = 1; guard(5, 0, 0) = 1; mend() = 0; room(1, 0) = 1;",
            "mend() = 16; many(2) = 0");
        s.says(16, "Returns the number of nets that become different by this.",
            A_TO_B, "net(1, 2) = 1; scene(1, 0, 2, 0) = 0; mend() = 2; guard(0, 0, 0) = 1; mend() = 1; ofNet(0, 3) = 2;",
            "guard(1, 1, 3) = 1; mend() = 1; ofNet(1, 2) = 1; ofNet(1, 3) = 2; guard(0, 1, 2) = 1; mend() = 0;",
            "ofNet(0, 2) = 1; lift(0, 1) = 0; mend() = 1; guard(0, 0, 0) = 1; lift(0, 2) = 0; mend() = 1");
    }

    private void p17Way() {
        s.says(17, "Returns the way from a room to another one.",
            CHAIN, "way(0, 5, ..) = 0 1 2 3 4 5; way(5, 3, ..) = 5 4 3; way(3, 4, ..) = 3 4; near(5, 0, 1) = 0;",
            "way(0, 5, ..) = 0 5; way(0, 4, ..) = 0 5 4");
        s.says(17, "`a`: the first room",
            CHAIN, "way(0, 2, 0) = 0; way(5, 2, 0) = 5; way(1, 2, 0) = 1; way(!0..5, 2, 0) = UNKNOWN;",
            "way(!0..5, 2, NONE) = UNKNOWN");
        s.says(17, "`b`: the last room",
            CHAIN, "way(2, 0, 2) = 0; way(2, 5, 3) = 5; way(2, 3, 1) = 3; way(2, !0..5, 0) = UNKNOWN;",
            "way(2, !0..5, NONE) = UNKNOWN");
        s.says(17, "`k`: NONE for the number of its rooms, both ends included; otherwise an index, 0 to 5, for the room with this index",
            CHAIN,
            "way(0, 1, NONE) = 2; way(0, 2, NONE) = 3; way(0, 5, NONE) = 6; way(0, 5, 0..5) = 0..5; way(5, 0, 0) = 5;",
            "way(5, 0, 5) = 0; way(0, 5, !0..5|NONE) = OUTSIDE; way(0, 5, -8) = OUTSIDE; way(0, 5, -10) = OUTSIDE");
        s.says(17, "Returns that number",
            CHAIN, "way(1, 4, NONE) = 4; way(1, 4, 0..3) = 1..4; way(4, 1, NONE) = 4; way(4, 1, 1) = 3");
        s.says(17, "NONE if there is no way, or it has no such index",
            "way(0, 5, NONE) = NONE; way(0, 5, 0..5) = NONE;",
            CHAIN, "way(0, 1, 1) = 1; way(0, 1, 2..5) = NONE; way(0, 4, 4) = 4; way(0, 4, 5) = NONE; way(0, 5, 5) = 5;",
            "near(0, 1, 0) = 1; way(0, 5, NONE) = NONE; way(0, 5, 0..5) = NONE; way(1, 5, NONE) = 5");
    }

    private void p17WayRefused() {
        s.says(17, "UNKNOWN if there is no such room (either one)",
            "way(!0..5, 0, 0) = UNKNOWN; way(0, !0..5, 0) = UNKNOWN; way(6, 6, 0) = UNKNOWN; way(-1, -1, NONE) = UNKNOWN;",
            "way(!0..5, 0, 6) = UNKNOWN; way(0, !0..5, -1) = UNKNOWN; way(MIN, MIN, MIN) = UNKNOWN;",
            "way(MAX, MAX, MAX) = UNKNOWN; way(6, 6, 6) = UNKNOWN");
        s.says(17, "OUTSIDE if k is neither NONE nor 0 to 5",
            "way(0, 1, !0..5|NONE) = OUTSIDE; way(0, 0, !0..5|NONE) = OUTSIDE; near(0, 1, 1) = 0;",
            "way(0, 1, !0..5|NONE) = OUTSIDE; way(0, 1, ..) = 0 1");
        s.says(17, "STATE if both are the same",
            CHAIN, "way(0, 0, NONE) = STATE; way(0, 0, 0..5) = STATE; way(1, 1, 0) = STATE; way(2, 2, 0) = STATE;",
            "way(3, 3, NONE) = STATE; way(4, 4, 5) = STATE; way(5, 5, NONE) = STATE; way(5, 5, 0) = STATE");
    }
}
