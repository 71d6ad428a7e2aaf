/** The description's paragraph on error codes, for each promise that has errors. */
final class SentencesOfErrors {
    /** Three scenes, of which none is a stride from another one but 0 and 1; two nets; two steps; two codes. */
    private static final String CHIP = "room(1, 1) = 0; room(2, 2) = 0; near(0, 1, 1) = 0; keep(1, 3, 2) = 0;"
        + "keep(2, 4, 0) = 0; scene(1, 0, 0, 0) = 0; scene(1, 2, 0, 0) = 1; scene(2, 1, 1, 1) = 2; net(1, 0) = 0;"
        + "net(2, 1) = 1; guard(0, 1, 2) = 1; lift(1, 3) = 0; step(0, 0, 0) = 1; step(4, 1, 2) = 2; key(110) = 1;"
        + "key(101) = 2;";

    /** Nothing more can be added; the plan from 0 to 3 has 41 steps. */
    private static final String FULL_CHIP = "room(1..3, 1) = 0; keep(1..3, 1, 0) = 0; net(1, 0) = 0..15;"
        + "guard(0..15, 0, 0) = 1; scene(1, 1, 1, 0) = 0; scene(1, 0, 1, 0) = 1; scene(1, 0, 2, 0) = 2;"
        + "scene(1, 2, 2, 0) = 3; scene(2, 2, 2, 0) = 4; scene(3, 2, 2, 0) = 5; scene(3, 2, 2, 1) = 6;"
        + "scene(2, 1, 1, 2) = 7; step(4, 1, 2) = 1..40; key(114) = 1..24;";

    private final Sentences s;

    private SentencesOfErrors(Sentences s) {
        this.s = s;
    }

    static void tell(Sentences sentences) {
        SentencesOfErrors errors = new SentencesOfErrors(sentences);
        errors.codes();
        errors.severalOfTheChip();
        errors.severalOfNets();
        errors.severalOfScripts();
        errors.severalOfTexts();
        errors.none();
        errors.nothingChanges();
    }

    private void codes() {
        String codes = "The error codes are UNKNOWN (there is no such room, supply, net, scene or step), OUTSIDE (another argument is out of its range), STATE (the call is not possible, as told), FULL (there is no room for more).";
        s.says(2, codes, "room(6, 0) = -1; room(0, 4) = -1");
        s.says(3, codes, "near(6, 0, 0) = -1; near(0, 1, 2) = -2; near(0, 0, 0) = -3");
        s.says(4, codes, "net(6, 0) = -1; net(0, 0) = -3; net(0, 1) = 0..15; net(0, 1) = -4");
        s.says(5, codes,
            "scene(4, 0, 0, 0) = -2; scene(0, 0, 0, 0) = -3; scene(1, 0, 0, 0..3) = 0..3; scene(2, 0, 0, 0..3) = 4..7;",
            "scene(3, 0, 0, 0) = -4");
        s.says(6, codes, "guard(0, 0, 0) = -1; net(0, 1) = 0; guard(0, 0, 4) = -1; guard(0, 2, 0) = -2");
        s.says(7, codes, "open(0) = -1");
        s.says(8, codes, "lift(0, 0) = -1; net(0, 1) = 0; lift(0, 4) = -2");
        s.says(9, codes, "keep(6, 0, 0) = -1; keep(0, 0, 4) = -1; keep(0, 10, 0) = -2");
        s.says(11, codes, "ofRoom(6, 0) = -1; ofRoom(0, 6) = -2");
        s.says(12, codes, "levelIn(0, 0) = -1; scene(1, 0, 0, 0) = 0; levelIn(0, 4) = -1");
        s.says(13, codes, "ofNet(0, 0) = -1; net(0, 1) = 0; ofNet(0, 10) = -2");
        s.says(14, codes, "fault(0, 0) = -1; net(0, 1) = 0; fault(0, 0) = -1");
        s.says(15, codes, "faults(0) = -2; faults(5) = -2");
        s.says(17, codes, "way(6, 0, 0) = -1; way(0, 1, 6) = -2; way(0, 0, 0) = -3");
        s.says(18, codes, "step(5, 0, 0) = -2; step(0, 0, 0) = 1..40; step(0, 0, 0) = -4");
        s.says(20, codes, "stepAt(0, 0) = -1; step(0, 0, 0) = 1; stepAt(0, 3) = -2");
        s.says(21, codes, "judge(0, 0) = -1; scene(1, 0, 0, 0) = 0; judge(0, 7) = -2");
        s.says(22, codes, "stride(0, 0, 0) = -1; scene(1, 0, 0, 0) = 0; stride(0, 0, 8) = -2");
        s.says(23, codes,
            "plan(0, 0) = -1; scene(1, 0, 0, 0) = 0; scene(2, 1, 0, 0) = 1; plan(0, 1) = -3; anew() = 0;",
            FULL_CHIP, "plan(0, 3) = -4");
        s.says(24, codes, "key(128) = -2; key(0) = 1..24; key(0) = -4");
        s.says(27, codes, "text(0, 0) = -1; net(0, 1) = 0; text(0, 40) = -2");
        s.says(28, codes, "many(7) = -2");
    }

    private static final String SEVERAL = "If several apply to a call, the result is the one that the description of the method's result names first.";

    private void severalOfTheChip() {
        s.says(3, SEVERAL,
            "near(6, 6, 2) = UNKNOWN; near(6, 0, 2) = UNKNOWN; near(0, 6, 2) = UNKNOWN; near(6, 6, 1) = UNKNOWN;",
            "near(-1, -1, -1) = UNKNOWN; near(3, 3, 2) = OUTSIDE; near(3, 3, -1) = OUTSIDE; near(3, 3, MIN) = OUTSIDE;",
            "near(3, 3, 1) = STATE");
        s.says(4, SEVERAL,
            "net(6, 6) = UNKNOWN; net(-1, -1) = UNKNOWN; net(0, 1) = 0..15; net(6, 6) = UNKNOWN; net(6, 0) = UNKNOWN;",
            "net(0, 6) = UNKNOWN; net(3, 3) = STATE; net(3, 4) = FULL");
        s.says(5, SEVERAL,
            "scene(0, 4, 0, 0) = OUTSIDE; scene(0, 0, 0, -1) = OUTSIDE;",
            FULL_CHIP, "scene(0, 4, 0, 0) = OUTSIDE; scene(1, 0, 0, 4) = OUTSIDE; scene(1, 1, 1, 0) = STATE;",
            "scene(0, 1, 1, 0) = STATE; scene(2, 1, 1, 2) = STATE; scene(1, 0, 0, 0) = FULL");
        s.says(6, SEVERAL,
            "guard(0, 2, 4) = UNKNOWN; guard(0, 2, 0) = UNKNOWN; net(0, 1) = 0; guard(0, 2, 4) = UNKNOWN;",
            "guard(1, 2, 0) = UNKNOWN; guard(1, 0, 4) = UNKNOWN; guard(0, -1, -1) = UNKNOWN; guard(0, 2, 0) = OUTSIDE");
        s.says(8, SEVERAL,
            "lift(0, 4) = UNKNOWN; net(0, 1) = 0; lift(1, 4) = UNKNOWN; lift(-1, -1) = UNKNOWN; lift(0, 4) = OUTSIDE");
        s.says(9, SEVERAL,
            "keep(6, 10, 4) = UNKNOWN; keep(6, 10, 0) = UNKNOWN; keep(0, 10, 4) = UNKNOWN; keep(-1, -1, -1) = UNKNOWN;",
            "keep(0, -1, -1) = UNKNOWN; keep(0, 10, 0) = OUTSIDE");
        s.says(11, SEVERAL,
            "ofRoom(6, 6) = UNKNOWN; ofRoom(-1, -1) = UNKNOWN; ofRoom(6, -1) = UNKNOWN; ofRoom(5, 6) = OUTSIDE");
    }

    private void severalOfNets() {
        s.says(13, SEVERAL,
            "ofNet(0, 10) = UNKNOWN; net(0, 1) = 0; ofNet(1, 10) = UNKNOWN; ofNet(-1, -1) = UNKNOWN;",
            "ofNet(0, 10) = OUTSIDE");
        s.says(17, SEVERAL,
            "way(6, 6, 6) = UNKNOWN; way(6, 6, 0) = UNKNOWN; way(6, 0, 6) = UNKNOWN; way(0, 6, 6) = UNKNOWN;",
            "way(-1, -1, -1) = UNKNOWN; way(3, 3, 6) = OUTSIDE; way(3, 3, -1) = OUTSIDE; way(3, 3, MAX) = OUTSIDE;",
            "way(3, 3, NONE) = STATE; way(3, 3, 5) = STATE");
    }

    private void severalOfScripts() {
        s.says(18, SEVERAL,
            "step(0, 0, 0) = 1..40; step(5, 0, 0) = OUTSIDE; step(0, 16, 0) = OUTSIDE; step(2, 6, 0) = OUTSIDE;",
            "step(4, 4, 0) = OUTSIDE; step(4, 0, 4) = OUTSIDE; step(4, 0, 3) = FULL");
        s.says(20, SEVERAL,
            "stepAt(0, 3) = UNKNOWN; step(0, 0, 0) = 1; stepAt(1, 3) = UNKNOWN; stepAt(-1, -1) = UNKNOWN;",
            "stepAt(0, 3) = OUTSIDE");
        s.says(21, SEVERAL,
            "judge(0, 7) = UNKNOWN; scene(1, 0, 0, 0) = 0; judge(1, 7) = UNKNOWN; judge(-1, -1) = UNKNOWN;",
            "judge(0, 7) = OUTSIDE");
        s.says(22, SEVERAL,
            "stride(0, 0, 8) = UNKNOWN; scene(1, 0, 0, 0) = 0; stride(1, 0, 8) = UNKNOWN; stride(0, 1, 8) = UNKNOWN;",
            "stride(-1, -1, -1) = UNKNOWN; stride(0, 0, 8) = OUTSIDE");
        s.says(23, SEVERAL,
            FULL_CHIP, "plan(8, 0) = UNKNOWN; plan(0, 8) = UNKNOWN; plan(8, 8) = UNKNOWN; plan(-1, 7) = UNKNOWN;",
            "plan(7, -1) = UNKNOWN; plan(0, 7) = STATE; plan(7, 0) = STATE; plan(0, 3) = FULL");
    }

    private void severalOfTexts() {
        s.says(24, SEVERAL,
            "key(0) = 1..24; key(128) = OUTSIDE; key(-1) = OUTSIDE; key(MIN) = OUTSIDE; key(MAX) = OUTSIDE;",
            "key(127) = FULL; key(0) = FULL");
        s.says(26, SEVERAL,
            FULL_CHIP,
            "'net 3 3' = 997; 'net 0 1' = 996; 'scene 0 3 3 3' = 997; 'scene 1 1 1 0' = 997; 'scene 1 3 3 3' = 996;",
            "'near 2 2 1' = 997");
        s.says(27, SEVERAL,
            "text(0, 40) = UNKNOWN; net(0, 1) = 0; text(1, 40) = UNKNOWN; text(-1, -2) = UNKNOWN; text(0, 40) = OUTSIDE;",
            "text(0, -2) = OUTSIDE");
    }

    private void none() {
        String none = "NONE (-9) stands for \"there is none\"";
        s.says(13, none, "net(0, 1) = 0; ofNet(0, 2) = -9; ofNet(0, 3) = -9");
        s.says(17, none, "way(0, 1, -9) = -9; way(0, 1, 0) = -9");
        s.says(21, none, "scene(1, 0, 0, 0) = 0; judge(0, 0..2) = -9");
        s.says(22, none,
            "scene(1, 0, 0, 0) = 0; scene(2, 1, 0, 0) = 1; stride(0, 1, -9) = -9; stride(0, 1, 0) = -9;",
            "stride(0, 0, 1) = -9");
        s.says(27, none, "net(0, 1) = 0; text(0, 11) = -9; text(0, 39) = -9");
        String only = "a method returns NONE only if no error applies.";
        s.says(13, only,
            "ofNet(0, 2) = UNKNOWN; net(0, 1) = 0; ofNet(0, 2) = NONE; ofNet(1, 2) = UNKNOWN; ofNet(1, 3) = UNKNOWN;",
            "ofNet(-9, 2) = UNKNOWN; ofNet(0, -9) = OUTSIDE");
        s.says(17, only,
            "way(0, 1, 5) = NONE; way(0, 1, 6) = OUTSIDE; way(6, 1, NONE) = UNKNOWN; way(0, 6, NONE) = UNKNOWN;",
            "way(NONE, 0, NONE) = UNKNOWN; way(0, 0, NONE) = STATE; way(0, 1, NONE) = NONE");
        s.says(21, only,
            "judge(0, 2) = UNKNOWN; scene(1, 0, 0, 0) = 0; judge(0, 2) = NONE; judge(1, 2) = UNKNOWN;",
            "judge(0, NONE) = OUTSIDE; judge(NONE, 0) = UNKNOWN");
        s.says(22, only,
            "stride(0, 0, NONE) = UNKNOWN; scene(1, 0, 0, 0) = 0; scene(2, 1, 0, 0) = 1; stride(0, 1, NONE) = NONE;",
            "stride(0, 1, 7) = NONE; stride(0, 1, 8) = OUTSIDE; stride(0, 2, NONE) = UNKNOWN;",
            "stride(2, 0, NONE) = UNKNOWN; stride(NONE, 0, NONE) = UNKNOWN");
        s.says(27, only,
            "text(0, 39) = UNKNOWN; net(0, 1) = 0; text(0, 39) = NONE; text(0, 40) = OUTSIDE; text(1, 39) = UNKNOWN;",
            "text(0, NONE) = OUTSIDE; text(NONE, 39) = UNKNOWN");
    }

    private void nothingChanges() {
        String nothing = "A call that returns an error changes nothing.";
        s.says(2, nothing, CHIP, "room(6, 3) = UNKNOWN; room(1, 4) = UNKNOWN; room(1, -1) = UNKNOWN; ofRoom(1, 0) = 1");
        s.says(3, nothing,
            CHIP, "near(0, 6, 0) = UNKNOWN; near(6, 0, 1) = UNKNOWN; near(0, 1, 2) = OUTSIDE; near(0, 1, -1) = OUTSIDE;",
            "near(3, 3, 1) = STATE; near(0, 0, 0) = STATE; ofRoom(0, 3) = 2; ofRoom(1, 3) = 1; ofRoom(3, 3) = 0");
        s.says(4, nothing,
            CHIP, "net(0, 6) = UNKNOWN; net(6, 0) = UNKNOWN; net(4, 4) = STATE; many(1) = 2; ofNet(2, 0) = UNKNOWN;",
            "net(4, 5) = 2; anew() = 3;",
            FULL_CHIP.replace("key(114) = 1..24;", ""),
            "net(4, 5) = FULL; ofNet(15, 0) = 1; ofNet(15, 3) = 0; ofNet(0, 0) = 1; many(1) = 16");
        s.says(5, nothing,
            CHIP, "scene(1, 2, 3, 4) = OUTSIDE; scene(0, 2, 3, 1) = STATE; scene(1, 2, 0, 0) = STATE; many(0) = 3;",
            "levelIn(3, 0) = UNKNOWN; scene(1, 3, 3, 3) = 3; levelIn(3, 0) = 1; levelIn(1, 1) = 2");
        s.says(5, nothing,
            FULL_CHIP,
            "scene(1, 0, 0, 3) = FULL; scene(1, 1, 1, 0) = STATE; scene(0, 0, 0, 3) = STATE; scene(1, 0, 0, 4) = OUTSIDE;",
            "many(0) = 8; levelIn(7, 0) = 2; levelIn(7, 3) = 2; levelIn(0, 3) = 0");
        s.says(6, nothing,
            CHIP,
            "guard(2, 0, 0) = UNKNOWN; guard(0, 0, 4) = UNKNOWN; guard(0, 2, 0) = OUTSIDE; guard(1, 2, 0) = OUTSIDE;",
            "guard(1, 0, 4) = UNKNOWN; ofNet(0, 2) = 1; ofNet(0, 3) = 2; ofNet(1, 2) = NONE; many(2) = 1");
        s.says(7, nothing, CHIP, "open(2) = UNKNOWN; open(-1) = UNKNOWN; many(2) = 1; ofNet(0, 2) = 1");
        s.says(8, nothing,
            CHIP, "lift(2, 0) = UNKNOWN; lift(1, 4) = OUTSIDE; lift(1, -1) = OUTSIDE; ofNet(1, 4) = 3; ofNet(0, 4) = 0");
        s.says(9, nothing,
            CHIP, "keep(6, 0, 0) = UNKNOWN; keep(1, 0, 4) = UNKNOWN; keep(1, 10, 0) = OUTSIDE; keep(1, -1, 0) = OUTSIDE;",
            "ofRoom(1, 1) = 3; ofRoom(1, 2) = 2");
        s.says(18, nothing,
            CHIP,
            "step(5, 0, 0) = OUTSIDE; step(0, 16, 0) = OUTSIDE; step(4, 0, 4) = OUTSIDE; steps = 0 0 0, 4 1 2; anew() = 2;",
            FULL_CHIP.replace("key(114) = 1..24;", ""),
            "step(0, 0, 0) = FULL; step(4, 3, 3) = FULL; many(3) = 40; stepAt(0..39, 0) = 4; stepAt(39, 2) = 2");
        s.says(23, nothing,
            CHIP,
            "plan(0, 3) = UNKNOWN; plan(3, 0) = UNKNOWN; plan(0, 2) = STATE; plan(2, 1) = STATE; steps = 0 0 0, 4 1 2");
        s.says(23, nothing,
            FULL_CHIP, "plan(0, 3) = FULL; plan(0, 5) = FULL; plan(0, 7) = STATE; plan(8, 0) = UNKNOWN; many(3) = 40;",
            "stepAt(0..39, 0) = 4; stepAt(0..39, 1) = 1; stepAt(0..39, 2) = 2; judge(0, 0) = 0; judge(3, 0) = NONE");
        s.says(24, nothing,
            CHIP, "key(128) = OUTSIDE; key(-1) = OUTSIDE; many(4) = 2; line() = -102; key(116) = 3; key(128) = OUTSIDE;",
            "line() = -103; key(32) = 4; key(53) = 5; key(32) = 6; key(48) = 7; key(-1) = OUTSIDE; line() = 1002;",
            "ofNet(2, 0) = 5");
        s.says(24, nothing, FULL_CHIP, "key(110) = FULL; key(128) = OUTSIDE; many(4) = 24; line() = -101; blank() = 24");
        s.says(26, nothing,
            CHIP, "line() = -102; line() = -102; many(4) = 2; 'guard 2 0 0' = 999; 'lift 2 3' = 999; 'net 4 4' = 997;",
            "'near 0 0 0' = 997; 'scene 1 2 0 0' = 997; 'scene 0 0 0 1' = 997; many(0) = 3; many(1) = 2; many(2) = 1;",
            "ofRoom(0, 3) = 2; ofNet(1, 4) = 3");
        s.says(28, nothing,
            CHIP, "ofRoom(6, 6) = UNKNOWN; ofNet(2, 10) = UNKNOWN; ofNet(0, 10) = OUTSIDE; levelIn(3, 0) = UNKNOWN;",
            "fault(0, 3) = UNKNOWN; faults(5) = OUTSIDE; way(0, 6, 9) = UNKNOWN; way(0, 1, 9) = OUTSIDE;",
            "way(1, 1, 0) = STATE; stepAt(2, 3) = UNKNOWN; stepAt(0, 3) = OUTSIDE; judge(3, 7) = UNKNOWN;",
            "judge(0, 7) = OUTSIDE; stride(0, 3, 9) = UNKNOWN; stride(0, 1, 9) = OUTSIDE; text(2, 40) = UNKNOWN;",
            "text(0, 40) = OUTSIDE; many(7) = OUTSIDE; many(0) = 3; many(1) = 2; many(2) = 1; many(3) = 2; many(4) = 2");
    }
}
