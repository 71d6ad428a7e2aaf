/** Promises 1 to 12, and the description's paragraphs on rooms, supplies, scenes and nets. */
final class SentencesOfTheChip {
    /** Eight scenes, the most that there can be. */
    private static final String ALL_SCENES = "scene(1, 0, 0, 0) = 0; scene(1, 3, 0, 0) = 1; scene(1, 0, 3, 0) = 2;"
        + "scene(1, 0, 0, 3) = 3; scene(2, 1, 0, 0) = 4; scene(2, 0, 2, 1) = 5; scene(3, 3, 3, 2) = 6;"
        + "scene(3, 3, 3, 3) = 7;";

    private static final String TWO_NETS = "net(0, 1) = 0; net(4, 5) = 1;";

    private final Sentences s;

    private SentencesOfTheChip(Sentences s) {
        this.s = s;
    }

    static void tell(Sentences sentences) {
        SentencesOfTheChip chip = new SentencesOfTheChip(sentences);
        chip.roomsAndSupplies();
        chip.scenes();
        chip.nets();
        chip.p01NewObject();
        chip.p02Room();
        chip.p03Near();
        chip.p04Net();
        chip.p05Scene();
        chip.p05SceneRefused();
        chip.p06Guard();
        chip.p07Open();
        chip.p08Lift();
        chip.p09Keep();
        chip.p10Anew();
        chip.p11OfRoom();
        chip.p12LevelIn();
    }

    private void roomsAndSupplies() {
        String there = "There are four supplies, 0 to 3, and six rooms, 0 to 5.";
        s.says(2, there,
            "room(0..5, 3) = 0; room(0..5, 0) = 3; room(5, 1) = 0; room(5, 2..3) = 1..2; room(!0..5, 3) = UNKNOWN;",
            "room(5, !0..3) = UNKNOWN; ofRoom(5, 0) = 3");
        s.says(3, there, "near(0, 5, 1) = 0; near(5, 0, 1) = 1; near(0, !0..5, 1) = UNKNOWN; near(!0..5, 5, 1) = UNKNOWN");
        s.says(6, there, "net(0, 5) = 0; guard(0, 1, 0..3) = 1; guard(0, 1, !0..3) = UNKNOWN; ofNet(0, 3) = 3");
        s.says(9, there,
            "keep(0..5, 9, 3) = 0; keep(!0..5, 9, 3) = UNKNOWN; keep(0, 9, !0..3) = UNKNOWN; ofRoom(0..5, 2) = 3");
        s.says(12, there,
            "scene(3, 2, 1, 0) = 0; levelIn(0, 0) = 3; levelIn(0, 1) = 2; levelIn(0, 2) = 1; levelIn(0, 3) = 0;",
            "levelIn(0, !0..3) = UNKNOWN");
        s.says(11, "A room is fed by a supply (0 at first)", "ofRoom(0..5, 0) = 0; room(0..5, 2) = 0; ofRoom(0..5, 0) = 2");
        s.says(11, "two rooms may be neighbours (none are at first)",
            "ofRoom(0..5, 3) = 0; near(0, 1..5, 0) = 0; near(1, 2..5, 0) = 0; near(2, 3..5, 0) = 0; near(3, 4..5, 0) = 0;",
            "near(4, 5, 0) = 0; ofRoom(0..5, 3) = 0; near(0, 1..5, 1) = 0; ofRoom(0, 3) = 62; ofRoom(1..5, 3) = 1");
        s.says(11, "a room has a number of registers, 0 to 9 (0 at first), and a keeper, which is a supply (0 at first).",
            "ofRoom(0..5, 1) = 0; ofRoom(0..5, 2) = 0; keep(0..5, 9, 3) = 0; ofRoom(0..5, 1) = 9; ofRoom(0..5, 2) = 3;",
            "keep(0, !0..9, 0) = OUTSIDE; keep(0, 0, !0..3) = UNKNOWN; ofRoom(0, 1) = 9; ofRoom(0, 2) = 3");
    }

    private void scenes() {
        s.says(5, "There are at most 8 scenes, numbered from 0 in the order in which they were added.",
            "many(0) = 0; levelIn(0, 0) = UNKNOWN;",
            ALL_SCENES,
            "many(0) = 8; scene(1, 1, 1, 1) = FULL; many(0) = 8; levelIn(0, 1) = 0; levelIn(1, 1) = 3; levelIn(2, 2) = 3;",
            "levelIn(7, 3) = 3; levelIn(8, 0) = UNKNOWN");
        s.says(5, "A scene has a level for each supply: 0 (off), or 1 to 3",
            "scene(1, 0, 0, 0) = 0; levelIn(0, 0) = 1; levelIn(0, 1..3) = 0; scene(3, 3, 3, 3) = 1; levelIn(1, 0..3) = 3;",
            "scene(!0..3, 1, 1, 1) = OUTSIDE; scene(1, !0..3, 1, 1) = OUTSIDE; scene(1, 1, !0..3, 1) = OUTSIDE;",
            "scene(1, 1, 1, !0..3) = OUTSIDE; many(0) = 2");
        s.says(5, "that of supply 0 is not 0",
            "scene(0, 0, 0, 0) = STATE; scene(0, 3, 3, 3) = STATE; many(0) = 0; scene(1, 0, 0, 0) = 0;",
            "scene(0, 1, 0, 0) = STATE; many(0) = 1");
        s.says(5, "no two scenes are equal",
            ALL_SCENES,
            "scene(1, 0, 0, 0) = STATE; scene(1, 3, 0, 0) = STATE; scene(1, 0, 3, 0) = STATE; scene(1, 0, 0, 3) = STATE;",
            "scene(2, 1, 0, 0) = STATE; scene(2, 0, 2, 1) = STATE; scene(3, 3, 3, 2) = STATE; scene(3, 3, 3, 3) = STATE;",
            "many(0) = 8");
        s.says(5, "no two scenes are equal",
            "scene(1, 2, 3, 0) = 0; scene(2, 2, 3, 0) = 1; scene(1, 1, 3, 0) = 2; scene(1, 2, 2, 0) = 3;",
            "scene(1, 2, 3, 1) = 4; scene(1, 3, 2, 0) = 5; scene(1, 2, 3, 0) = STATE; many(0) = 6");
        s.says(11, "In a scene the level of a room is that of its supply; the room is on if this is greater than 0, otherwise off.",
            "scene(1, 0, 1, 3) = 0; ofRoom(5, 4) = 1; room(5, 1) = 0; ofRoom(5, 4) = 0; room(5, 2) = 1; ofRoom(5, 4) = 1;",
            "room(5, 3) = 2; ofRoom(5, 4) = 1; room(5, 1) = 3; ofRoom(5, 5) = 1");
        s.says(14, "In a scene the level of a room is that of its supply",
            "scene(2, 1, 3, 0) = 0; net(4, 5) = 0; fault(0, 0) = 0; room(4, 1) = 0; fault(0, 0) = 3; room(4, 2) = 1;",
            "fault(0, 0) = 4; room(4, 3) = 2; fault(0, 0) = 1; room(5, 3) = 0; fault(0, 0) = 0");
        s.says(11, "Sets of rooms, scenes or nets are ints in which bit k stands for number k.",
            ALL_SCENES, "ofRoom(0, 4) = 255; room(0, 1) = 0; ofRoom(0, 4) = 210; room(0, 3) = 1; ofRoom(0, 4) = 232;",
            "ofRoom(0, 5) = 23; near(5, 0, 1) = 0; ofRoom(0, 3) = 32; ofRoom(5, 3) = 1; near(5, 4, 1) = 0;",
            "ofRoom(5, 3) = 17");
        s.says(21, "Sets of rooms, scenes or nets are ints in which bit k stands for number k.",
            "scene(1, 0, 0, 0) = 0; judge(0, 4) = 63; judge(0, 5) = 0; judge(0, 6) = 0; net(5, 0) = 0..15;",
            "guard(0, 0, 0) = 1; guard(15, 0, 0) = 1; room(5, 1) = 0; keep(5, 1, 0) = 0; judge(0, 4) = 31;",
            "judge(0, 5) = 32; judge(0, 6) = 32769; guard(0..15, 0, 0) = 1; judge(0, 6) = 65535");
    }

    private void nets() {
        s.says(4, "There are at most 16 nets, numbered from 0 in the order in which they were added.",
            "many(1) = 0; ofNet(0, 0) = UNKNOWN; net(0, 1) = 0; net(2, 3) = 1; net(5, 4) = 2..15; many(1) = 16;",
            "net(0, 1) = FULL; many(1) = 16; ofNet(0, 1) = 1; ofNet(1, 1) = 3; ofNet(2..15, 0) = 5;",
            "ofNet(16, 0) = UNKNOWN");
        s.says(4, "A net goes from a room to another one (several nets may have the same rooms).",
            "net(0, 5) = 0..2; net(5, 0) = 3; ofNet(0..2, 0) = 0; ofNet(0..2, 1) = 5; ofNet(3, 0) = 5; ofNet(3, 1) = 0;",
            "net(0, 0) = STATE; net(5, 5) = STATE; lift(1, 2) = 0; ofNet(0, 4) = 0; ofNet(1, 4) = 2; ofNet(2, 4) = 0");
        s.says(6, "It may have a guard, which has a value (0 or 1) and is fed by a supply",
            TWO_NETS,
            "guard(0, 0, 0) = 1; ofNet(0, 2) = 0; ofNet(0, 3) = 0; guard(1, 1, 3) = 1; ofNet(1, 2) = 1; ofNet(1, 3) = 3;",
            "guard(1, !0..1, 3) = OUTSIDE; guard(1, 1, !0..3) = UNKNOWN; ofNet(1, 2) = 1; ofNet(1, 3) = 3");
        s.says(8, "and it has a lift: 0 none (at first), 1 up, 2 down, 3 both.",
            TWO_NETS,
            "text(1, 6) = 110; lift(1, 1) = 0; text(1, 6) = 117; lift(1, 2) = 1; text(1, 6) = 100; lift(1, 3) = 2;",
            "text(1, 6) = 98; lift(1, 0) = 3; text(1, 6) = 110; lift(1, !0..3) = OUTSIDE; ofNet(1, 4) = 0;",
            "ofNet(0, 4) = 0");
    }

    private void p01NewObject() {
        s.says(1, "Creates a chip in the initial state, without scenes, nets and steps, with an empty tape.",
            "many(0..6) = 0; ofRoom(0..5, 0) = 0; ofRoom(0..5, 1) = 0; ofRoom(0..5, 2) = 0; ofRoom(0..5, 3) = 0;",
            "ofRoom(0..5, 4) = 0; ofRoom(0..5, 5) = 0; levelIn(0..7, 0) = UNKNOWN; ofNet(0..15, 0) = UNKNOWN;",
            "stepAt(0..39, 0) = UNKNOWN; judge(0, 0) = UNKNOWN; stride(0, 0, 0) = UNKNOWN; plan(0, 0) = UNKNOWN;",
            "way(0, 5, NONE) = NONE; faults(1..4) = 0; mend() = 0; text(0, -1) = UNKNOWN; line() = -100; wipe() = 0;",
            "blank() = 0; anew() = 0");
    }

    private void p02Room() {
        s.says(2, "Feeds a room by a supply.",
            "scene(1, 2, 3, 0) = 0; room(5, 3) = 0; ofRoom(5, 0) = 3; ofRoom(5, 4) = 0; room(5, 2) = 3; ofRoom(5, 0) = 2;",
            "ofRoom(5, 4) = 1; ofRoom(0..4, 0) = 0; room(0, 1) = 0; ofRoom(0, 0) = 1; ofRoom(5, 0) = 2");
        s.says(2, "`r`: the room",
            "room(0, 1) = 0; room(5, 2) = 0; room(!0..5, 3) = UNKNOWN; ofRoom(0, 0) = 1; ofRoom(1..4, 0) = 0;",
            "ofRoom(5, 0) = 2");
        s.says(2, "`s`: the supply", "room(3, 3) = 0; room(3, 0) = 3; room(3, !0..3) = UNKNOWN; ofRoom(3, 0) = 0");
        s.says(2, "Returns the supply by which it was fed before",
            "room(1, 0) = 0; room(1, 3) = 0; room(1, 3) = 3; room(1, 1) = 3; room(2, 2) = 0; room(1, 2) = 1;",
            "room(1, 0) = 2; room(1, 0) = 0");
        s.says(2, "UNKNOWN if there is no such room or supply",
            "room(2, 3) = 0; room(!0..5, 0) = UNKNOWN; room(2, !0..3) = UNKNOWN; room(6, 4) = UNKNOWN;",
            "room(-1, -1) = UNKNOWN; room(MIN, MAX) = UNKNOWN; room(MAX, MIN) = UNKNOWN; room(2, 3) = 3");
    }

    private void p03Near() {
        s.says(3, "Sets whether two rooms are neighbours.",
            "near(0, 5, 1) = 0; ofRoom(0, 3) = 32; ofRoom(5, 3) = 1; near(0, 1, 1) = 0; ofRoom(0, 3) = 34;",
            "near(5, 0, 0) = 1; ofRoom(0, 3) = 2; ofRoom(5, 3) = 0; near(1, 0, 0) = 1; ofRoom(0..5, 3) = 0");
        s.says(3, "`a`: a room", "near(0, 3, 1) = 0; near(5, 3, 1) = 0; near(!0..5, 3, 0) = UNKNOWN; ofRoom(3, 3) = 33");
        s.says(3, "`b`: another room",
            "near(3, 0, 1) = 0; near(3, 5, 1) = 0; near(3, !0..5, 0) = UNKNOWN; near(3, 3, 0) = STATE; ofRoom(3, 3) = 33");
        s.says(3, "`v`: 1: they are; 0: they are not",
            "near(1, 2, 0) = 0; ofRoom(1, 3) = 0; near(1, 2, 1) = 0; ofRoom(1, 3) = 4; near(1, 2, !0..1) = OUTSIDE;",
            "ofRoom(1, 3) = 4; near(1, 2, 0) = 1; near(1, 2, !0..1) = OUTSIDE; ofRoom(1, 3) = 0");
        s.says(3, "Returns 1 if they were neighbours before, else 0",
            "near(4, 5, 0) = 0; near(4, 5, 1) = 0; near(4, 5, 1) = 1; near(5, 4, 1) = 1; near(5, 4, 0) = 1;",
            "near(4, 5, 0) = 0; near(0, 5, 1) = 0; near(0, 4, 1) = 0; near(4, 5, 1) = 0");
        s.says(3, "UNKNOWN if there is no such room (either one)",
            "near(!0..5, 0, 1) = UNKNOWN; near(0, !0..5, 1) = UNKNOWN; near(6, 6, 1) = UNKNOWN; near(-1, -1, 0) = UNKNOWN;",
            "near(MIN, MAX, 1) = UNKNOWN; near(!0..5, 0, 2) = UNKNOWN; near(0, !0..5, -1) = UNKNOWN;",
            "near(6, 6, MAX) = UNKNOWN; ofRoom(0..5, 3) = 0");
        s.says(3, "OUTSIDE if v is neither 0 nor 1",
            "near(0, 1, 1) = 0; near(0, 1, !0..1) = OUTSIDE; near(2, 3, !0..1) = OUTSIDE; near(4, 4, !0..1) = OUTSIDE;",
            "ofRoom(0, 3) = 2; ofRoom(2, 3) = 0; near(0, 1, 0) = 1");
        s.says(3, "STATE if both are the same",
            "near(0, 0, 1) = STATE; near(1, 1, 0) = STATE; near(2, 2, 1) = STATE; near(3, 3, 0) = STATE;",
            "near(4, 4, 1) = STATE; near(5, 5, 1) = STATE; near(5, 5, 0) = STATE; ofRoom(0..5, 3) = 0; near(0, 1, 1) = 0;",
            "near(0, 0, 0) = STATE; near(0, 0, 1) = STATE; ofRoom(0, 3) = 2");
    }

    private void p04Net() {
        s.says(4, "Adds a net without guard and lift.",
            "net(0, 5) = 0; ofNet(0, 2) = NONE; ofNet(0, 3) = NONE; ofNet(0, 4) = 0; guard(0, 1, 3) = 1; lift(0, 3) = 0;",
            "net(0, 5) = 1; ofNet(1, 2) = NONE; ofNet(1, 3) = NONE; ofNet(1, 4) = 0; guard(1, 1, 2) = 1; lift(1, 2) = 0;",
            "anew() = 2; net(5, 0) = 0; net(1, 0) = 1; ofNet(0..1, 2) = NONE; ofNet(0..1, 3) = NONE; ofNet(0..1, 4) = 0;",
            "many(2) = 0");
        s.says(4, "`a`: the room from which it comes",
            "net(0, 3) = 0; net(5, 3) = 1; ofNet(0, 0) = 0; ofNet(1, 0) = 5; net(!0..5, 3) = UNKNOWN; many(1) = 2");
        s.says(4, "`b`: the room to which it goes",
            "net(3, 0) = 0; net(3, 5) = 1; ofNet(0, 1) = 0; ofNet(1, 1) = 5; net(3, !0..5) = UNKNOWN; many(1) = 2");
        s.says(4, "`b`: the room to which it goes",
            "net(1, 3) = 0..4; net(2, 4) = 5..9; net(4, 5) = 10..15; ofNet(0..4, 0) = 1; ofNet(0..4, 1) = 3;",
            "ofNet(5..9, 0) = 2; ofNet(5..9, 1) = 4; ofNet(10..15, 0) = 4; ofNet(10..15, 1) = 5");
        s.says(4, "Returns the number of the net",
            "net(0, 1) = 0; net(1, 0) = 1; net(0, 1) = 2..15; anew() = 16; net(0, 1) = 0..15");
        s.says(4, "UNKNOWN if there is no such room (either one)",
            "net(!0..5, 0) = UNKNOWN; net(0, !0..5) = UNKNOWN; net(6, 6) = UNKNOWN; net(-1, -1) = UNKNOWN;",
            "net(MIN, MIN) = UNKNOWN; net(MAX, MIN) = UNKNOWN; many(1) = 0; net(0, 1) = 0..15; net(6, 0) = UNKNOWN;",
            "net(0, -1) = UNKNOWN; net(6, 6) = UNKNOWN; many(1) = 16");
        s.says(4, "STATE if both are the same",
            "net(0, 0) = STATE; net(1, 1) = STATE; net(2, 2) = STATE; net(3, 3) = STATE; net(4, 4) = STATE;",
            "net(5, 5) = STATE; many(1) = 0; net(0, 1) = 0..15; net(0, 0) = STATE; net(5, 5) = STATE; many(1) = 16");
        s.says(4, "FULL if there are 16 nets",
            "net(4, 5) = 0..14; many(1) = 15; net(5, 4) = 15; net(5, 4) = FULL; net(0, 1) = FULL; many(1) = 16;",
            "ofNet(15, 0) = 5; ofNet(16, 0) = UNKNOWN; ofNet(0, 0) = 4");
    }

    private void p05Scene() {
        s.says(5, "Adds a scene.",
            "many(0) = 0; scene(1, 2, 3, 0) = 0; many(0) = 1; levelIn(0, 0) = 1; levelIn(0, 1) = 2; levelIn(0, 2) = 3;",
            "levelIn(0, 3) = 0; ofRoom(0, 4) = 1; scene(3, 0, 1, 2) = 1; many(0) = 2; levelIn(0, 0) = 1;",
            "levelIn(1, 0) = 3; levelIn(1, 1) = 0; levelIn(1, 2) = 1; levelIn(1, 3) = 2; ofRoom(0, 4) = 3");
        s.says(5, "`l0`: level of supply 0",
            "scene(1, 0, 0, 0) = 0; scene(2, 0, 0, 0) = 1; scene(3, 0, 0, 0) = 2; levelIn(0, 0) = 1; levelIn(1, 0) = 2;",
            "levelIn(2, 0) = 3; scene(!0..3, 0, 0, 0) = OUTSIDE; scene(0, 0, 0, 0) = STATE; many(0) = 3");
        s.says(5, "`l1`: level of supply 1",
            "scene(1, 0..3, 0, 0) = 0..3; levelIn(0..3, 1) = 0..3; scene(1, !0..3, 0, 0) = OUTSIDE; many(0) = 4");
        s.says(5, "`l2`: level of supply 2",
            "scene(1, 0, 0..3, 0) = 0..3; levelIn(0..3, 2) = 0..3; scene(1, 0, !0..3, 0) = OUTSIDE; many(0) = 4");
        s.says(5, "`l3`: level of supply 3",
            "scene(1, 0, 0, 0..3) = 0..3; levelIn(0..3, 3) = 0..3; scene(1, 0, 0, !0..3) = OUTSIDE; many(0) = 4");
        s.says(5, "Returns the number of the scene",
            ALL_SCENES, "anew() = 0; scene(3, 3, 3, 3) = 0; scene(1, 0, 0, 0) = 1; many(0) = 2");
    }

    private void p05SceneRefused() {
        s.says(5, "OUTSIDE if a level is not 0 to 3",
            "scene(!0..3, 0, 0, 0) = OUTSIDE; scene(1, !0..3, 0, 0) = OUTSIDE; scene(1, 0, !0..3, 0) = OUTSIDE;",
            "scene(1, 0, 0, !0..3) = OUTSIDE; many(0) = 0; levelIn(0, 0) = UNKNOWN");
        s.says(5, "OUTSIDE if a level is not 0 to 3",
            ALL_SCENES,
            "scene(0, !0..3, 0, 0) = OUTSIDE; scene(0, 0, !0..3, 0) = OUTSIDE; scene(0, 0, 0, !0..3) = OUTSIDE;",
            "scene(4, 4, 4, 4) = OUTSIDE; scene(-1, -1, -1, -1) = OUTSIDE; scene(1, 0, 0, 4) = OUTSIDE; many(0) = 8");
        s.says(5, "STATE if l0 is 0, or there is an equal scene",
            "scene(0, 0, 0, 0) = STATE; scene(0, 3, 3, 3) = STATE; scene(1, 0, 0, 0) = 0; scene(1, 0, 0, 0) = STATE;",
            "scene(1, 0, 0, 1) = 1; scene(1, 0, 0, 0) = STATE; scene(1, 0, 0, 1) = STATE; scene(0, 0, 0, 1) = STATE;",
            "many(0) = 2");
        s.says(5, "STATE if l0 is 0, or there is an equal scene",
            ALL_SCENES,
            "scene(0, 0, 0, 0) = STATE; scene(0, 1, 1, 1) = STATE; scene(1, 0, 0, 0) = STATE; scene(3, 3, 3, 3) = STATE;",
            "many(0) = 8; anew() = 0; scene(3, 3, 3, 3) = 0");
        s.says(5, "FULL if there are 8 scenes",
            "scene(1, 0, 0, 0..3) = 0..3; scene(1, 1, 0, 0..2) = 4..6; many(0) = 7; scene(2, 0, 0, 0) = 7; many(0) = 8;",
            "scene(3, 0, 0, 0) = FULL; scene(3, 3, 3, 3) = FULL; scene(1, 1, 0, 3) = FULL; many(0) = 8; levelIn(7, 0) = 2;",
            "levelIn(8, 0) = UNKNOWN; anew() = 0; scene(3, 0, 0, 0) = 0");
    }

    private void p06Guard() {
        s.says(6, "Gives a net a guard, in place of one that it has.",
            TWO_NETS,
            "guard(0, 1, 3) = 1; ofNet(0, 2) = 1; ofNet(0, 3) = 3; many(2) = 1; guard(0, 0, 2) = 1; ofNet(0, 2) = 0;",
            "ofNet(0, 3) = 2; many(2) = 1; ofNet(1, 2) = NONE; guard(0, 1, 2) = 1; ofNet(0, 2) = 1; guard(0, 1, 0) = 1;",
            "ofNet(0, 3) = 0; ofNet(0, 4) = 0");
        s.says(6, "`n`: number of the net",
            "guard(0, 0, 0) = UNKNOWN; net(0, 1) = 0; guard(0, 0, 0) = 1; guard(1, 0, 0) = UNKNOWN; net(1, 0) = 1..15;",
            "guard(15, 1, 1) = 1; ofNet(15, 3) = 1; ofNet(14, 3) = NONE; guard(!0..15, 1, 2) = UNKNOWN; many(2) = 2");
        s.says(6, "`v`: the value of the guard, 0 or 1",
            TWO_NETS,
            "guard(1, 0, 3) = 1; ofNet(1, 2) = 0; guard(1, 1, 3) = 1; ofNet(1, 2) = 1; guard(1, !0..1, 0) = OUTSIDE;",
            "ofNet(1, 2) = 1; ofNet(1, 3) = 3");
        s.says(6, "`s`: the supply by which it is fed",
            TWO_NETS,
            "guard(1, 0, 0) = 1; ofNet(1, 3) = 0; guard(1, 0, 3) = 1; ofNet(1, 3) = 3; guard(1, 1, !0..3) = UNKNOWN;",
            "ofNet(1, 2) = 0; ofNet(1, 3) = 3");
        s.says(6, "Returns 1",
            TWO_NETS,
            "guard(0, 0, 0) = 1; guard(0, 0, 0) = 1; guard(0, 1, 3) = 1; guard(1, 0, 0) = 1; guard(1, 1, 3) = 1");
        s.says(6, "UNKNOWN if there is no such net or supply",
            "guard(0, 0, 0) = UNKNOWN; guard(0, 2, 4) = UNKNOWN;",
            TWO_NETS, "guard(!0..1, 0, 0) = UNKNOWN; guard(0, 0, !0..3) = UNKNOWN; guard(!0..1, 2, 0) = UNKNOWN;",
            "guard(0, 2, !0..3) = UNKNOWN; guard(2, 0, 4) = UNKNOWN; guard(MAX, MAX, MAX) = UNKNOWN;",
            "guard(MIN, MIN, MIN) = UNKNOWN; many(2) = 0");
        s.says(6, "OUTSIDE if v is neither 0 nor 1",
            TWO_NETS,
            "guard(0, !0..1, 0) = OUTSIDE; many(2) = 0; guard(1, 1, 2) = 1; guard(1, !0..1, 3) = OUTSIDE; ofNet(1, 2) = 1;",
            "ofNet(1, 3) = 2; many(2) = 1");
    }

    private void p07Open() {
        s.says(7, "Removes the guard of a net.",
            TWO_NETS, "guard(0, 1, 3) = 1; guard(1, 1, 2) = 1; many(2) = 2; open(0) = 1; many(2) = 1; ofNet(0, 2) = NONE;",
            "ofNet(0, 3) = NONE; ofNet(1, 2) = 1; ofNet(1, 3) = 2; open(1) = 1; many(2) = 0");
        s.says(7, "`n`: number of the net",
            "open(0) = UNKNOWN; net(0, 1) = 0..15; guard(0..15, 1, 1) = 1; open(0) = 1; open(15) = 1;",
            "open(!0..15) = UNKNOWN; many(2) = 14");
        s.says(7, "Returns 1 if it had one, else 0",
            TWO_NETS, "open(0) = 0; open(0) = 0; guard(0, 0, 0) = 1; open(0) = 1; open(0) = 0; guard(1, 0, 0) = 1;",
            "guard(1, 1, 1) = 1; open(1) = 1; open(1) = 0");
        s.says(7, "UNKNOWN if there is no such net",
            "open(0) = UNKNOWN; open(!0..1) = UNKNOWN;",
            TWO_NETS,
            "guard(0..1, 1, 1) = 1; open(!0..1) = UNKNOWN; many(2) = 2; anew() = 2; open(0) = UNKNOWN; open(1) = UNKNOWN");
    }

    private void p08Lift() {
        s.says(8, "Sets the lift of a net.",
            TWO_NETS, "lift(0, 3) = 0; ofNet(0, 4) = 3; ofNet(1, 4) = 0; lift(0, 1) = 3; ofNet(0, 4) = 1; lift(1, 2) = 0;",
            "ofNet(0, 4) = 1; ofNet(1, 4) = 2; ofNet(1, 2) = NONE");
        s.says(8, "`n`: number of the net",
            "lift(0, 0) = UNKNOWN; net(0, 1) = 0..15; lift(0, 3) = 0; lift(15, 2) = 0; lift(!0..15, 1) = UNKNOWN;",
            "ofNet(0, 4) = 3; ofNet(1..14, 4) = 0; ofNet(15, 4) = 2");
        s.says(8, "`w`: the new lift, 0 to 3",
            TWO_NETS, "lift(1, 0) = 0; lift(1, 1..3) = 0..2; lift(1, !0..3) = OUTSIDE; ofNet(1, 4) = 3; lift(1, 0) = 3");
        s.says(8, "Returns the previous lift",
            TWO_NETS, "lift(0, 3) = 0; lift(0, 3) = 3; lift(0, 2) = 3; lift(1, 1) = 0; lift(0, 1) = 2; lift(0, 0) = 1;",
            "lift(0, 0) = 0; lift(1, 0) = 1");
        s.says(8, "UNKNOWN if there is no such net",
            "lift(0, 0) = UNKNOWN; lift(0, 4) = UNKNOWN;",
            TWO_NETS, "lift(0..1, 3) = 0; lift(!0..1, 0) = UNKNOWN; lift(!0..1, 4) = UNKNOWN; lift(MIN, MIN) = UNKNOWN;",
            "lift(MAX, MAX) = UNKNOWN; ofNet(0..1, 4) = 3");
        s.says(8, "OUTSIDE if w is out of range",
            TWO_NETS,
            "lift(0, !0..3) = OUTSIDE; ofNet(0, 4) = 0; lift(0, 3) = 0; lift(0, !0..3) = OUTSIDE; ofNet(0, 4) = 3");
    }

    private void p09Keep() {
        s.says(9, "Sets registers and keeper of a room.",
            "keep(0, 9, 3) = 0; ofRoom(0, 1) = 9; ofRoom(0, 2) = 3; keep(5, 1, 2) = 0; ofRoom(5, 1) = 1; ofRoom(5, 2) = 2;",
            "ofRoom(1..4, 1) = 0; ofRoom(1..4, 2) = 0; keep(0, 0, 1) = 9; ofRoom(0, 1) = 0; ofRoom(0, 2) = 1;",
            "ofRoom(0, 0) = 0");
        s.says(9, "`r`: the room",
            "keep(0, 1, 1) = 0; keep(5, 2, 2) = 0; keep(!0..5, 3, 3) = UNKNOWN; ofRoom(0, 1) = 1; ofRoom(1..4, 1) = 0;",
            "ofRoom(5, 1) = 2");
        s.says(9, "`k`: the new number of registers, 0 to 9",
            "keep(2, 0, 1) = 0; keep(2, 1..9, 1) = 0..8; keep(2, !0..9, 2) = OUTSIDE; ofRoom(2, 1) = 9; ofRoom(2, 2) = 1;",
            "keep(2, 0, 1) = 9");
        s.says(9, "`s`: the new keeper",
            "keep(2, 5, 3) = 0; ofRoom(2, 2) = 3; keep(2, 6, !0..3) = UNKNOWN; ofRoom(2, 1) = 5; ofRoom(2, 2) = 3;",
            "keep(2, 5, 0) = 5; ofRoom(2, 2) = 0");
        s.says(9, "Returns the previous number of registers",
            "keep(3, 4, 0) = 0; keep(3, 4, 1) = 4; keep(3, 9, 2) = 4; keep(4, 1, 0) = 0; keep(3, 0, 3) = 9;",
            "keep(3, 7, 0) = 0; keep(4, 0, 0) = 1");
        s.says(9, "UNKNOWN if there is no such room or supply",
            "keep(1, 5, 2) = 0; keep(!0..5, 0, 0) = UNKNOWN; keep(1, 0, !0..3) = UNKNOWN; keep(!0..5, 10, 0) = UNKNOWN;",
            "keep(1, -1, !0..3) = UNKNOWN; keep(6, 10, 4) = UNKNOWN; keep(MIN, MIN, MIN) = UNKNOWN;",
            "keep(MAX, MAX, MAX) = UNKNOWN; ofRoom(1, 1) = 5; ofRoom(1, 2) = 2");
        s.says(9, "OUTSIDE if k is out of range",
            "keep(0, !0..9, 3) = OUTSIDE; ofRoom(0, 1) = 0; ofRoom(0, 2) = 0; keep(0, 9, 3) = 0;",
            "keep(0, !0..9, 0) = OUTSIDE; ofRoom(0, 1) = 9; ofRoom(0, 2) = 3");
    }

    private void p10Anew() {
        s.says(10, "Puts everything but the tape into the initial state.",
            ALL_SCENES,
            "net(0, 5) = 0..15; guard(0..15, 1, 3) = 1; lift(0..15, 3) = 0; room(0..5, 3) = 0; keep(0..5, 9, 2) = 0;",
            "near(0, 1..5, 1) = 0; step(4, 3, 3) = 1..40; key(110) = 1..24; anew() = 16; many(0..3) = 0; many(4) = 24;",
            "many(5..6) = 0; ofRoom(0..5, 0) = 0; ofRoom(0..5, 1) = 0; ofRoom(0..5, 2) = 0; ofRoom(0..5, 3) = 0;",
            "levelIn(0, 0) = UNKNOWN; ofNet(0, 0) = UNKNOWN; stepAt(0, 0) = UNKNOWN; key(110) = FULL; line() = -101;",
            "blank() = 24");
        s.says(10, "Puts everything but the tape into the initial state.",
            "anew() = 0; many(0..6) = 0; key(114) = 1; key(111) = 2; anew() = 0; key(111) = 3; key(109) = 4; key(32) = 5;",
            "key(53) = 6; anew() = 0; key(32) = 7; key(51) = 8; line() = 1000; ofRoom(5, 0) = 3; anew() = 0;",
            "ofRoom(5, 0) = 0; many(4) = 0");
        s.says(10, "Returns the number of nets that there were.",
            "anew() = 0; net(0, 1) = 0; anew() = 1; anew() = 0; net(0, 1) = 0..15; net(0, 1) = FULL; anew() = 16;",
            "anew() = 0; scene(1, 0, 0, 0) = 0; step(0, 0, 0) = 1; anew() = 0; many(0) = 0; many(3) = 0");
    }

    private void p11OfRoom() {
        s.says(11, "Returns a property of a room.",
            "room(4, 1) = 0; keep(4, 6, 2) = 0; near(4, 5, 1) = 0; scene(1, 0, 2, 0) = 0; scene(1, 3, 0, 0) = 1;",
            "ofRoom(4, 0) = 1; ofRoom(4, 1) = 6; ofRoom(4, 2) = 2; ofRoom(4, 3) = 32; ofRoom(4, 4) = 2; ofRoom(4, 5) = 1");
        s.says(11, "`r`: the room",
            "room(0, 1) = 0; room(5, 2) = 0; ofRoom(0, 0) = 1; ofRoom(1..4, 0) = 0; ofRoom(5, 0) = 2;",
            "ofRoom(!0..5, 0) = UNKNOWN");
        s.says(11, "`what`: 0: its supply",
            "ofRoom(3, 0) = 0; room(3, 3) = 0; ofRoom(3, 0) = 3; room(3, 1) = 3; ofRoom(3, 0) = 1");
        s.says(11, "1: registers",
            "ofRoom(3, 1) = 0; keep(3, 9, 0) = 0; ofRoom(3, 1) = 9; keep(3, 0, 0) = 9; ofRoom(3, 1) = 0");
        s.says(11, "2: its keeper",
            "ofRoom(3, 2) = 0; keep(3, 0, 3) = 0; ofRoom(3, 2) = 3; keep(3, 0, 0) = 0; ofRoom(3, 2) = 0");
        s.says(11, "3: the set of its neighbours",
            "ofRoom(5, 3) = 0; near(5, 0..4, 1) = 0; ofRoom(5, 3) = 31; ofRoom(0..4, 3) = 32; near(2, 5, 0) = 1;",
            "ofRoom(5, 3) = 27; ofRoom(2, 3) = 0");
        s.says(11, "4: the set of the scenes in which it is on",
            "ofRoom(0, 4) = 0;",
            ALL_SCENES,
            "ofRoom(0, 4) = 255; room(0, 1) = 0; ofRoom(0, 4) = 210; room(0, 2) = 1; ofRoom(0, 4) = 228; room(0, 3) = 2;",
            "ofRoom(0, 4) = 232; anew() = 0; ofRoom(0, 4) = 0");
        s.says(11, "5: the set of the scenes in which it is off and its keeper has a level greater than 0",
            "ofRoom(0, 5) = 0;",
            ALL_SCENES,
            "ofRoom(0, 5) = 0; room(0, 1) = 0; ofRoom(0, 5) = 45; keep(0, 0, 2) = 0; ofRoom(0, 5) = 36; keep(0, 9, 3) = 0;",
            "ofRoom(0, 5) = 40; keep(0, 9, 1) = 9; ofRoom(0, 5) = 0");
        s.says(11, "Returns the property",
            "ofRoom(0, 0..5) = 0; room(5, 1) = 0; keep(5, 2, 3) = 0; ofRoom(5, 0..2) = 1..3");
        s.says(11, "UNKNOWN if there is no such room",
            "ofRoom(!0..5, 0) = UNKNOWN; ofRoom(!0..5, 5) = UNKNOWN; ofRoom(!0..5, 6) = UNKNOWN; ofRoom(6, -1) = UNKNOWN;",
            "ofRoom(MIN, MIN) = UNKNOWN; ofRoom(MAX, MAX) = UNKNOWN");
        s.says(11, "OUTSIDE if what is out of range",
            "ofRoom(0, !0..5) = OUTSIDE; ofRoom(5, !0..5) = OUTSIDE; ofRoom(0, 0..5) = 0");
    }

    private void p12LevelIn() {
        s.says(12, "Returns the level of a supply in a scene.",
            ALL_SCENES,
            "levelIn(0, 0) = 1; levelIn(0, 1..3) = 0; levelIn(5, 0) = 2; levelIn(5, 1) = 0; levelIn(5, 2) = 2;",
            "levelIn(5, 3) = 1; levelIn(6, 0..2) = 3; levelIn(6, 3) = 2; levelIn(7, 0..3) = 3");
        s.says(12, "`scene`: number of the scene",
            "levelIn(0, 0) = UNKNOWN; scene(2, 0, 0, 0) = 0; levelIn(0, 0) = 2; levelIn(1, 0) = UNKNOWN;",
            "scene(3, 0, 0, 0) = 1; levelIn(1, 0) = 3; levelIn(!0..1, 0) = UNKNOWN");
        s.says(12, "`scene`: number of the scene",
            ALL_SCENES, "levelIn(0, 0) = 1; levelIn(7, 0) = 3; levelIn(!0..7, 0) = UNKNOWN");
        s.says(12, "`s`: the supply",
            "scene(3, 1, 0, 2) = 0; levelIn(0, 0) = 3; levelIn(0, 1) = 1; levelIn(0, 2) = 0; levelIn(0, 3) = 2;",
            "levelIn(0, !0..3) = UNKNOWN");
        s.says(12, "Returns the level",
            "scene(1, 0, 3, 2) = 0; levelIn(0, 0) = 1; levelIn(0, 1) = 0; levelIn(0, 2) = 3; levelIn(0, 3) = 2");
        s.says(12, "UNKNOWN if there is no such scene or supply",
            "levelIn(0, 0) = UNKNOWN; levelIn(0, 4) = UNKNOWN; scene(1, 1, 1, 1) = 0; scene(2, 2, 2, 2) = 1;",
            "levelIn(!0..1, 3) = UNKNOWN; levelIn(0, !0..3) = UNKNOWN; levelIn(1, !0..3) = UNKNOWN;",
            "levelIn(2, 4) = UNKNOWN; levelIn(MIN, MIN) = UNKNOWN; levelIn(MAX, MAX) = UNKNOWN; anew() = 0;",
            "levelIn(0, 0) = UNKNOWN");
    }
}
