/** The document's first section, "What it is": what the class is for, told in a run each. */
final class SentencesOfTheWhole {
    /** Room 1 sleeps in scene 0, wakes in scene 1, and is above room 0 in scene 2; net 0 comes from it. */
    private static final String CHIP = "scene(1, 0, 0, 0) = 0; scene(1, 1, 0, 0) = 1; scene(1, 3, 0, 0) = 2; room(1, 1) = 0;"
        + "net(1, 0) = 0;";

    private final Sentences s;

    private SentencesOfTheWhole(Sentences s) {
        this.s = s;
    }

    static void tell(Sentences sentences) {
        SentencesOfTheWhole whole = new SentencesOfTheWhole(sentences);
        whole.chip();
        whole.finds();
        whole.scripts();
        whole.texts();
        whole.calls();
    }

    private void chip() {
        s.says(13, "Power domains of a chip: rooms that are fed by supplies, which are switched in scenes, and nets between rooms that need isolation cells (guards) and level shifters (lifts).",
            CHIP, "ofRoom(1, 0) = 1; ofRoom(1, 4) = 6; levelIn(2, 1) = 3; ofNet(0, 0) = 1; ofNet(0, 1) = 0; ofNet(0, 5) = 1;",
            "ofNet(0, 6) = 2; guard(0, 1, 0) = 1; lift(0, 2) = 0; ofNet(0, 9) = 0; ofNet(0, 8) = 0");
    }

    private void finds() {
        String finds = "The class finds faults of nets in scenes, which guards and lifts are needed or useless, feed-through paths, and retention of registers";
        s.says(14, finds, CHIP, "fault(0, 0) = 1; fault(0, 1) = 0; fault(0, 2) = 4; faults(1) = 1; faults(4) = 1; many(5) = 1");
        s.says(13, finds,
            CHIP, "ofNet(0, 5) = 1; ofNet(0, 6) = 2; ofNet(0, 8) = 0; lift(0, 1) = 0; ofNet(0, 8) = 2; net(0, 1) = 1;",
            "guard(1, 0, 0) = 1; ofNet(1, 5) = 0; ofNet(1, 6) = 1; ofNet(1, 8) = 1; many(6) = 2; mend() = 2; many(6) = 0");
        s.says(17, finds,
            CHIP, "near(0, 1, 1) = 0; near(1, 2, 1) = 0; way(0, 2, ..) = none; near(0, 3, 1) = 0; near(3, 2, 1) = 0;",
            "way(0, 2, ..) = 0 3 2; room(2, 1) = 0; way(0, 2, ..) = 0 1 2");
        s.says(11, finds, CHIP, "keep(1, 5, 0) = 0; ofRoom(1, 1) = 5; ofRoom(1, 5) = 1; keep(1, 5, 1) = 5; ofRoom(1, 5) = 0");
    }

    private void scripts() {
        s.says(21, "it judges scripts that hold nets, save rooms and switch supplies, step by step",
            CHIP, "guard(0, 0, 0) = 1; keep(1, 5, 0) = 0; step(4, 1, 0) = 1; judge(1, ..) = 0 5 0 0 61 0 0; wipe() = 1;",
            "step(0, 0, 0) = 1; judge(1, ..) = NONE NONE NONE 1 63 0 1; step(2, 1, 0) = 2;",
            "judge(1, ..) = NONE NONE NONE 1 63 2 1; step(4, 1, 0) = 3; judge(1, ..) = NONE NONE NONE 0 61 2 1;",
            "step(4, 1, 3) = 4; judge(1, ..) = NONE NONE NONE 2 61 2 1; step(1, 0, 0) = 5; judge(1, ..) = 4 6 0 2 61 2 0");
        s.says(23, "and plans such scripts from scene to scene.",
            CHIP, "guard(0, 0, 0) = 1; keep(1, 5, 0) = 0; plan(1, 0) = 3; steps = 0 0 0, 2 1 0, 4 1 0;",
            "judge(1, ..) = NONE NONE NONE 0 61 2 1; plan(0, 2) = 3; steps = 4 1 3, 3 1 0, 1 0 0;",
            "judge(0, ..) = NONE NONE NONE 2 63 2 0; plan(2, 1) = 1; steps = 4 1 1");
    }

    private void texts() {
        s.says(26, "All of it can be given by lines of text",
            "'scene 1 0 0 0' = 1000; 'scene 1 1 0 0' = 1001; 'room 1 1' = 1000; 'net 1 0' = 1000; 'guard 0 1 0' = 1001;",
            "'lift 0 2' = 1000; 'keep 1 5 0' = 1000; 'near 0 1 1' = 1000; plan(1, 0) = 3; steps = 0 0 0, 2 1 0, 4 1 0;",
            "text(0, ..) = 'b>a g10 down 00'; way(0, 1, ..) = 0 1; many(6) = 1");
        s.says(27, "nets can be written as texts", CHIP, "text(0, ..) = 'b>a - none 104'; mend() = 1; text(0, ..) = 'b>a g00 down 000'");
    }

    /** Beside this, each run of {@link Sentences} is made once more so that its last call is the object's 512th. */
    private void calls() {
        String most = "An object is used for at most 512 calls after it has been made; what later calls answer is free.";
        StringBuilder busy = new StringBuilder();
        for (int i = 0; i < 5; i++) {
            busy.append("scene(1, 0, 0, 0..3) = 0..3; scene(2, 0, 0, 0..3) = 4..7; net(5, 0) = 0..15; step(4, 3, 1) = 1..40;");
            busy.append("many(0) = 8; many(1) = 16; many(3) = 40; anew() = 16;");
        }
        s.says(1, most, busy.toString(), CHIP, "fault(0, 0) = 1; fault(0, 1) = 0; fault(0, 2) = 4; many(1) = 1");
    }
}
