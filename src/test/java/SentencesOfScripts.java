/** Promises 18 to 23, and the description's paragraphs on scripts, judging, strides and plans. */
final class SentencesOfScripts {
    /** Room 1, from which net 0 comes, sleeps in the scenes 0 and 3; supply 2 is on in the scenes 2 and 3. */
    private static final String SLEEPER = "room(1, 1) = 0; net(1, 0) = 0; scene(1, 0, 0, 0) = 0; scene(1, 1, 0, 0) = 1;"
        + "scene(1, 1, 1, 0) = 2; scene(1, 0, 1, 0) = 3;";

    private static final String GUARDED = SLEEPER + "guard(0, 0, 0) = 1;";

    private static final String EIGHT_IN_A_ROW = "scene(1, 0, 0, 0) = 0; scene(1, 1, 0, 0) = 1; scene(1, 1, 1, 0) = 2;"
        + "scene(1, 1, 1, 1) = 3; scene(2, 1, 1, 1) = 4; scene(2, 2, 1, 1) = 5; scene(2, 2, 2, 1) = 6;"
        + "scene(2, 2, 2, 2) = 7;";

    /** The strides from 0 to 4 switch supply 1 on and off again. */
    private static final String ON_AND_OFF = "scene(1, 0, 0, 0) = 0; scene(1, 1, 0, 0) = 1; scene(1, 1, 2, 0) = 2;"
        + "scene(1, 1, 2, 3) = 3; scene(1, 0, 2, 3) = 4; room(1, 1) = 0; room(2, 1) = 0;";

    /** The strides from 0 to 3 switch supply 1 off and on again. */
    private static final String OFF_AND_ON = "scene(1, 1, 1, 0) = 0; scene(1, 0, 1, 0) = 1; scene(1, 0, 2, 0) = 2;"
        + "scene(1, 2, 2, 0) = 3; room(1, 1) = 0;";

    /** The plan from 0 to 4 holds and frees 16 nets, saves and restores two rooms, and has four levels: 40 steps. */
    private static final String LONG_PLAN = "scene(1, 1, 1, 0) = 0; scene(1, 0, 1, 0) = 1; scene(1, 0, 2, 0) = 2;"
        + "scene(1, 2, 2, 0) = 3; scene(2, 2, 2, 0) = 4; scene(3, 3, 3, 3) = 5; room(1..3, 1) = 0; keep(1..2, 1, 0) = 0;"
        + "net(1, 0) = 0..15; guard(0..15, 0, 0) = 1;";

    private final Sentences s;

    private SentencesOfScripts(Sentences s) {
        this.s = s;
    }

    static void tell(Sentences sentences) {
        SentencesOfScripts scripts = new SentencesOfScripts(sentences);
        scripts.steps();
        scripts.kinds();
        scripts.beginning();
        scripts.firstBadStep();
        scripts.reasonsOneAndTwo();
        scripts.reasonsThreeAndFour();
        scripts.whatIsDone();
        scripts.whatLevelsDo();
        scripts.reasonFive();
        scripts.reasonSix();
        scripts.strides();
        scripts.plans();
        scripts.plansThatSwitchOff();
        scripts.plansThatSwitchOn();
        scripts.p18Step();
        scripts.p19Wipe();
        scripts.p20StepAt();
        scripts.p21Judge();
        scripts.p21JudgeWhat();
        scripts.p21JudgeRefused();
        scripts.p22Stride();
        scripts.p23Plan();
    }

    private void steps() {
        String most = "A script has at most 40 steps, numbered from 0.";
        s.says(18, most,
            "many(3) = 0; stepAt(0, 0) = UNKNOWN; step(2, 5, 0) = 1; step(4, 3, 2) = 2..39; many(3) = 39;",
            "step(3, 4, 0) = 40; step(3, 4, 0) = FULL; many(3) = 40; stepAt(0, 0) = 2; stepAt(1..38, 0) = 4;",
            "stepAt(39, 0) = 3; stepAt(40, 0) = UNKNOWN; stepAt(-1, 0) = UNKNOWN; wipe() = 40; step(0, 0, 0) = 1..40");
        s.says(21, most,
            GUARDED, "step(0, 0, 0) = 1..39; judge(1, ..) = NONE NONE NONE 1 63 0 1; step(0, 1, 0) = 40;",
            "judge(1, ..) = 39 1 NONE 1 63 0 1");
        s.says(23, most,
            LONG_PLAN, "plan(0, 4) = 40; stepAt(0, 0) = 0; stepAt(39, 0) = 4; stepAt(39, 1) = 0; stepAt(39, 2) = 2;",
            "stepAt(40, 0) = UNKNOWN; step(0, 0, 0) = FULL; keep(3, 1, 0) = 0; plan(0, 4) = FULL; many(3) = 40");
        s.says(20, "A step has a kind and a number x, and for kind 4 also y",
            "step(0, 15, 3) = 1; step(1, 14, 3) = 2; step(2, 5, 3) = 3; step(3, 4, 3) = 4; step(4, 3, 2) = 5;",
            "steps = 0 15 0, 1 14 0, 2 5 0, 3 4 0, 4 3 2");
    }

    private void kinds() {
        s.says(21, "0 hold net x", GUARDED, "step(0, 0, 0) = 1; judge(1, ..) = NONE NONE NONE 1 63 0 1");
        s.says(21, "1 free net x",
            GUARDED,
            "judge(0, 6) = 1; step(1, 0, 0) = 1; judge(0, ..) = 0 5 0 0 61 0 0; judge(1, ..) = NONE NONE NONE 1 63 0 0");
        s.says(21, "2 save room x",
            SLEEPER, "keep(1, 1, 0) = 0; step(2, 1, 0) = 1; judge(1, ..) = NONE NONE NONE 1 63 2 0; keep(5, 1, 0) = 0;",
            "step(2, 5, 0) = 2; judge(1, 5) = 34");
        s.says(21, "3 restore room x",
            GUARDED, "keep(1, 1, 0) = 0; step(4, 1, 1) = 1; judge(0, 4) = 61; step(3, 1, 0) = 2;",
            "judge(0, ..) = NONE NONE NONE 1 63 2 1");
        s.says(21, "4 give supply x the level y.",
            SLEEPER, "step(4, 1, 1) = 1; judge(0, ..) = NONE NONE NONE 1 63 0 0; step(4, 2, 1) = 2;",
            "judge(0, ..) = NONE NONE NONE 2 63 0 0; step(4, 2, 0) = 3; judge(0, 3) = 1");
    }

    private void beginning() {
        s.says(21, "A script is judged from a scene on, with the nets, rooms and scenes that there are at the time of the query.",
            "scene(1, 0, 0, 0) = 0; step(0, 0, 0) = 1; judge(0, ..) = 0 1 NONE 0 63 0 0; net(1, 0) = 0; judge(0, 1) = 1;",
            "guard(0, 0, 0) = 1; judge(0, ..) = NONE NONE NONE 0 63 0 1; step(4, 1, 2) = 2;",
            "judge(0, ..) = 1 4 NONE 0 63 0 1; scene(1, 2, 0, 0) = 1; judge(0, ..) = NONE NONE NONE 1 63 0 1;",
            "room(1, 1) = 0; keep(1, 3, 0) = 0; judge(0, ..) = NONE NONE NONE 1 61 2 1;",
            "judge(1, ..) = NONE NONE NONE 1 63 0 1; open(0) = 1; judge(0, ..) = 0 1 NONE 0 61 2 0; many(3) = 2");
        s.says(21, "At first the levels are those of the scene",
            EIGHT_IN_A_ROW,
            "judge(0..7, 3) = 0..7; step(4, 0, 1) = 1; judge(0, 1) = NONE; judge(3, 1) = NONE; judge(7, 1) = 4");
        s.says(21, "those nets are held that have a guard and come from a room that is off",
            SLEEPER,
            "judge(0, 6) = 0; guard(0, 0, 0) = 1; judge(0, 6) = 1; judge(1, 6) = 0; judge(2, 6) = 0; judge(3, 6) = 1;",
            "guard(0, 1, 3) = 1; judge(0, 6) = 1; net(0, 1) = 1; guard(1, 0, 0) = 1; judge(0, 6) = 1; net(1, 2) = 2;",
            "judge(0, 6) = 1; guard(2, 0, 1) = 1; judge(0, 6) = 5; room(2, 1) = 0; judge(0, 6) = 5; net(1, 0) = 3..15;",
            "guard(3..15, 0, 0) = 1; judge(0, 6) = 65533; open(0) = 1; judge(0, 6) = 65532; judge(1, 6) = 0");
        s.says(21, "those rooms are ready that are on",
            SLEEPER,
            "judge(0, 4) = 61; judge(1, 4) = 63; keep(0..5, 9, 3) = 0; judge(0, 4) = 61; judge(1, 4) = 63; room(5, 3) = 0;",
            "judge(1, 4) = 31; room(0, 1) = 0; judge(0, 4) = 28; room(2..4, 1) = 0; judge(0, 4) = 0; judge(2, 4) = 31;",
            "room(5, 2) = 3; judge(2, 4) = 63; judge(3, 4) = 32");
        s.says(21, "those are saved that are off, have registers, and whose keeper has a level greater than 0.",
            SLEEPER,
            "judge(0, 5) = 0; keep(1, 1, 0) = 0; judge(0, 5) = 2; judge(1, 5) = 0; keep(1, 9, 2) = 1; judge(0, 5) = 0;",
            "judge(3, 5) = 2; judge(2, 5) = 0; keep(1, 9, 1) = 9; judge(0, 5) = 0; judge(3, 5) = 0; keep(1, 0, 0) = 9;",
            "judge(0, 5) = 0; keep(0..5, 1, 0) = 0; judge(0, 5) = 2; room(0, 1) = 0; room(2..5, 1) = 0; judge(0, 5) = 63;",
            "judge(1, 5) = 0");
    }

    private void firstBadStep() {
        s.says(21, "Then the steps are done one after the other, up to the first bad one.",
            GUARDED, "judge(1, ..) = NONE NONE NONE 1 63 0 0; step(0, 0, 0) = 1; step(3, 1, 0) = 2; step(1, 0, 0) = 3;",
            "step(0, 9, 0) = 4; judge(1, ..) = 1 3 NONE 1 63 0 1; wipe() = 4; step(4, 1, 0) = 1; step(0, 9, 0) = 2;",
            "judge(1, ..) = 0 5 0 0 61 0 0; wipe() = 2; step(0, 0, 0) = 1; step(1, 0, 0) = 2; step(0, 0, 0) = 3;",
            "step(4, 1, 0) = 4; judge(1, ..) = NONE NONE NONE 0 61 0 1");
        s.says(21, "A step is bad, and not done, for one of these reasons",
            GUARDED, "step(4, 1, 3) = 1; judge(0, ..) = 0 4 NONE 0 61 0 1; wipe() = 1; step(2, 1, 0) = 1;",
            "judge(1, ..) = 0 2 NONE 1 63 0 0; wipe() = 1; keep(1, 1, 0) = 0; step(3, 1, 0) = 1;",
            "judge(0, ..) = 0 3 NONE 0 61 2 1; wipe() = 1; step(1, 1, 0) = 1; judge(0, ..) = 0 1 NONE 0 61 2 1");
    }

    private void reasonsOneAndTwo() {
        s.says(21, "hold or free, and there is no such net, or it has no guard.",
            "scene(1, 0, 0, 0) = 0; step(0, 0, 0) = 1; judge(0, 1) = 1; wipe() = 1; step(1, 0, 0) = 1; judge(0, 1) = 1;",
            "net(0, 1) = 0; judge(0, 1) = 1; guard(0, 1, 3) = 1; judge(0, 1) = NONE; wipe() = 1; step(0, 15, 0) = 1;",
            "judge(0, ..) = 0 1 NONE 0 63 0 0; net(0, 1) = 1..14; guard(1..14, 1, 3) = 1; judge(0, 1) = 1; net(0, 1) = 15;",
            "judge(0, 1) = 1; guard(15, 0, 0) = 1; judge(0, ..) = NONE NONE NONE 0 63 0 32768; step(1, 15, 0) = 2;",
            "judge(0, ..) = NONE NONE NONE 0 63 0 0; open(15) = 1; judge(0, ..) = 0 1 NONE 0 63 0 0");
        String save = "save, and the room is off or not ready, has no registers, or its keeper has level 0.";
        s.says(21, save,
            GUARDED, "step(2, 1, 0) = 1; judge(1, ..) = 0 2 NONE 1 63 0 0; keep(1, 1, 0) = 0;",
            "judge(1, ..) = NONE NONE NONE 1 63 2 0; judge(0, ..) = 0 2 NONE 0 61 2 1; keep(1, 9, 2) = 1;",
            "judge(1, ..) = 0 2 NONE 1 63 0 0; judge(2, ..) = NONE NONE NONE 2 63 2 0; judge(3, ..) = 0 2 NONE 3 61 2 1;",
            "keep(1, 9, 1) = 9; judge(1, ..) = NONE NONE NONE 1 63 2 0");
        s.says(21, save,
            GUARDED, "keep(1, 1, 0) = 0; step(2, 1, 0) = 1; step(2, 1, 0) = 2; judge(1, ..) = NONE NONE NONE 1 63 2 0;",
            "judge(2, ..) = NONE NONE NONE 2 63 2 0; keep(1, 1, 2) = 1; judge(1, ..) = 0 2 NONE 1 63 0 0");
        s.says(21, save,
            SLEEPER, "room(0, 3) = 0; room(2, 3) = 0; keep(5, 1, 0) = 0; step(2, 5, 0) = 1;",
            "judge(1, ..) = NONE NONE NONE 1 58 32 0; keep(0..2, 1, 0) = 0; judge(1, ..) = NONE NONE NONE 1 58 37 0;",
            "wipe() = 1; step(2, 0, 0) = 1; judge(1, 1) = 2; wipe() = 1; step(2, 2, 0) = 1; judge(1, 1) = 2");
        s.says(21, save,
            GUARDED, "keep(1, 1, 0) = 0; step(4, 1, 1) = 1; step(2, 1, 0) = 2; judge(0, ..) = 1 2 NONE 1 61 2 1;",
            "judge(1, ..) = NONE NONE NONE 1 63 2 0; keep(1, 1, 2) = 1; judge(0, ..) = 1 2 NONE 1 61 0 1;",
            "keep(1, 0, 0) = 1; judge(0, ..) = 1 2 NONE 1 63 0 1; wipe() = 2; step(2, 5, 0) = 1; judge(0, 1) = 2;",
            "keep(5, 1, 0) = 0; judge(0, 1) = NONE; judge(0, 5) = 32");
    }

    private void reasonsThreeAndFour() {
        s.says(21, "restore, and the room is off or not saved.",
            GUARDED,
            "keep(1, 1, 0) = 0; step(3, 1, 0) = 1; judge(0, ..) = 0 3 NONE 0 61 2 1; judge(1, ..) = 0 3 NONE 1 63 0 0;",
            "wipe() = 1; step(2, 1, 0) = 1; step(3, 1, 0) = 2; judge(1, ..) = NONE NONE NONE 1 63 2 0; wipe() = 2;",
            "step(4, 1, 1) = 1; step(3, 1, 0) = 2; judge(0, ..) = NONE NONE NONE 1 63 2 1; keep(1, 1, 2) = 1;",
            "judge(0, ..) = 1 3 NONE 1 61 0 1; judge(3, ..) = NONE NONE NONE 2 63 2 1; keep(1, 0, 0) = 1;",
            "judge(0, ..) = 1 3 NONE 1 63 0 1; wipe() = 2; step(3, 0, 0) = 1; judge(0, 1) = 3; step(3, 5, 0) = 2;",
            "judge(0, 0) = 0");
        s.says(21, "level, and there is no scene with the levels that there would be then.",
            GUARDED, "step(4, 1, 2) = 1; judge(0, ..) = 0 4 NONE 0 61 0 1; judge(1, ..) = 0 4 NONE 1 63 0 0; wipe() = 1;",
            "step(4, 0, 0) = 1; judge(0, 1) = 4; wipe() = 1; step(4, 0, 2) = 1; judge(0, 1) = 4; wipe() = 1;",
            "step(4, 3, 3) = 1; judge(0, 1) = 4; scene(1, 0, 0, 3) = 4; judge(0, ..) = NONE NONE NONE 4 61 0 1;",
            "judge(1, 1) = 4; step(4, 1, 1) = 2; judge(0, ..) = 1 4 NONE 4 61 0 1; wipe() = 2; step(4, 1, 1) = 1;",
            "step(4, 3, 3) = 2; judge(0, ..) = 1 4 NONE 1 63 0 1");
        s.says(21, "level, and there is no scene with the levels that there would be then.",
            "step(4, 1, 0) = 1; scene(1, 0, 0, 0) = 0; judge(0, ..) = NONE NONE NONE 0 63 0 0; step(4, 0, 1) = 2;",
            "judge(0, 1) = NONE; step(4, 0, 0) = 3; judge(0, ..) = 2 4 NONE 0 63 0 0");
    }

    private void whatIsDone() {
        s.says(21, "Otherwise it is done: hold and free make the net held or not held",
            GUARDED,
            "step(0, 0, 0) = 1; judge(1, 6) = 1; step(0, 0, 0) = 2; judge(1, 6) = 1; step(1, 0, 0) = 3; judge(1, 6) = 0;",
            "step(1, 0, 0) = 4; judge(1, 6) = 0; judge(1, 0) = NONE; net(1, 0) = 1..15; guard(15, 0, 0) = 1;",
            "step(0, 15, 0) = 5; judge(1, 6) = 32768; step(0, 0, 0) = 6; judge(1, 6) = 32769; judge(1, 0) = NONE;",
            "step(1, 15, 0) = 7; judge(1, ..) = NONE NONE NONE 1 63 0 1");
        s.says(21, "hold and free make the net held or not held",
            SLEEPER, "guard(0, 0, 2) = 1; step(0, 0, 0) = 1; step(4, 2, 0) = 2; judge(2, ..) = NONE NONE NONE 1 63 0 1;",
            "wipe() = 2; step(4, 1, 1) = 1; judge(0, ..) = NONE NONE NONE 1 63 0 1; wipe() = 1; room(0, 1) = 0;",
            "step(4, 1, 0) = 1; judge(1, ..) = NONE NONE NONE 0 60 0 0");
        s.says(21, "save makes the room saved",
            SLEEPER, "keep(0..5, 1, 0) = 0; step(2, 0, 0) = 1; judge(1, 5) = 1; step(2, 5, 0) = 2; judge(1, 5) = 33;",
            "step(2, 5, 0) = 3; judge(1, ..) = NONE NONE NONE 1 63 33 0");
        s.says(21, "restore makes it ready (it stays saved)",
            GUARDED, "keep(1, 1, 0) = 0; step(4, 1, 1) = 1; judge(0, ..) = NONE NONE NONE 1 61 2 1; step(3, 1, 0) = 2;",
            "judge(0, ..) = NONE NONE NONE 1 63 2 1; step(3, 1, 0) = 3; judge(0, ..) = NONE NONE NONE 1 63 2 1");
        s.says(21, "a level is set",
            EIGHT_IN_A_ROW,
            "step(4, 1, 1) = 1; step(4, 2, 1) = 2; step(4, 3, 1) = 3; step(4, 0, 2) = 4; step(4, 1, 2) = 5;",
            "step(4, 2, 2) = 6; step(4, 3, 2) = 7; judge(0, 3) = 7; judge(0, 0) = NONE; step(4, 3, 1) = 8;",
            "judge(0, 3) = 6; step(4, 3, 3) = 9; judge(0, ..) = 8 4 NONE 6 63 0 0");
    }

    private void whatLevelsDo() {
        s.says(21, "if it is 0 after that, all rooms that are fed by this supply are not ready any more, and all rooms whose keeper it is are not saved any more",
            GUARDED, "room(2, 1) = 0; room(3, 2) = 0; keep(0..3, 1, 1) = 0; keep(4..5, 1, 2) = 0; step(2, 0, 0) = 1;",
            "step(2, 2, 0) = 2; step(2, 5, 0) = 3; step(0, 0, 0) = 4; judge(2, ..) = NONE NONE NONE 2 63 37 1;",
            "step(4, 1, 0) = 5; judge(2, ..) = NONE NONE NONE 3 57 32 1; step(4, 2, 0) = 6;",
            "judge(2, ..) = NONE NONE NONE 0 49 0 1");
        s.says(21, "if it is 0 after that, all rooms that are fed by this supply are not ready any more",
            "room(0..5, 3) = 0; scene(1, 0, 0, 3) = 0; scene(1, 0, 0, 1) = 1; scene(1, 0, 0, 0) = 2; keep(0..5, 1, 0) = 0;",
            "step(4, 3, 1) = 1; judge(0, 4) = 63; step(4, 3, 0) = 2; judge(0, ..) = NONE NONE NONE 2 0 0 0;",
            "step(4, 3, 0) = 3; judge(0, ..) = NONE NONE NONE 2 0 0 0; judge(2, ..) = NONE NONE NONE 2 0 63 0");
        s.says(21, "if it is 0 after that, all rooms that are fed by this supply are not ready any more",
            "room(1..2, 1) = 0; keep(2, 1, 1) = 0; scene(1, 1, 0, 0) = 0; scene(1, 0, 0, 0) = 1; step(4, 1, 0) = 1;",
            "judge(0, ..) = NONE NONE NONE 1 57 0 0; keep(1..2, 0, 0) = 0..1; judge(0, ..) = NONE NONE NONE 1 57 0 0");
        s.says(21, "if it is 0 after that",
            "room(1, 1) = 0; keep(1, 1, 2) = 0; scene(1, 0, 1, 0) = 0; scene(1, 0, 2, 0) = 1; scene(1, 0, 0, 0) = 2;",
            "scene(1, 3, 1, 0) = 3; scene(1, 1, 1, 0) = 4; step(4, 2, 2) = 1; judge(0, ..) = NONE NONE NONE 1 61 2 0;",
            "step(4, 2, 0) = 2; judge(0, ..) = NONE NONE NONE 2 61 0 0; wipe() = 2; step(4, 1, 1) = 1;",
            "judge(3, ..) = NONE NONE NONE 4 63 0 0; keep(1, 0, 0) = 1; judge(3, ..) = NONE NONE NONE 4 63 0 0");
        String wakes = "if it was 0 before, but is not after that, all rooms that are fed by it and have no registers are ready.";
        s.says(21, wakes,
            GUARDED,
            "room(2, 1) = 0; room(3, 2) = 0; keep(1, 1, 0) = 0; step(4, 1, 1) = 1; judge(0, ..) = NONE NONE NONE 1 53 2 1;",
            "keep(1, 0, 0) = 1; judge(0, ..) = NONE NONE NONE 1 55 0 1; step(4, 2, 1) = 2;",
            "judge(0, ..) = NONE NONE NONE 2 63 0 1; keep(3, 9, 0) = 0; judge(0, ..) = NONE NONE NONE 2 55 8 1; wipe() = 2;",
            "step(4, 1, 1) = 1; judge(3, ..) = NONE NONE NONE 2 63 0 1; keep(2, 1, 0) = 0; judge(3, 4) = 59");
        s.says(21, wakes,
            "room(1, 1) = 0; keep(1, 1, 0) = 0; scene(1, 0, 0, 0) = 0; scene(1, 1, 0, 0) = 1; scene(1, 3, 0, 0) = 2;",
            "step(4, 1, 1) = 1; step(4, 1, 3) = 2; judge(0, ..) = NONE NONE NONE 2 61 2 0; keep(1, 0, 0) = 1;",
            "judge(0, ..) = NONE NONE NONE 2 63 0 0; wipe() = 2; step(4, 1, 0) = 1;",
            "judge(0, ..) = NONE NONE NONE 0 61 0 0");
    }

    private void reasonFive() {
        String first = "A step that has been done is bad for the first of these reasons that applies";
        s.says(21, first,
            SLEEPER, "keep(1, 1, 0) = 0; room(2, 3) = 0; net(2, 0) = 1; step(4, 1, 1) = 1; judge(0, ..) = 0 5 1 1 57 2 0;",
            "guard(1, 0, 0) = 1; judge(0, ..) = 0 6 0 1 57 2 2; guard(0, 0, 0) = 1;",
            "judge(0, ..) = NONE NONE NONE 1 57 2 3");
        s.says(21, first,
            SLEEPER,
            "judge(0, 0) = NONE; step(4, 2, 1) = 1; judge(0, ..) = 0 5 0 3 61 0 0; wipe() = 1; step(4, 1, 2) = 1;",
            "judge(0, ..) = 0 4 NONE 0 61 0 0; wipe() = 1; step(3, 1, 0) = 1; judge(0, 1) = 3");
        s.says(21, first,
            SLEEPER, "net(2, 0) = 1; guard(1, 0, 0) = 1; keep(5, 1, 0) = 0; step(0, 1, 0) = 1;",
            "judge(0, ..) = 0 5 0 0 61 0 2; wipe() = 1; step(1, 1, 0) = 1; judge(0, ..) = 0 5 0 0 61 0 0; wipe() = 1;",
            "step(2, 5, 0) = 1; judge(0, ..) = 0 5 0 0 61 32 0; wipe() = 1; step(4, 3, 0) = 1;",
            "judge(0, ..) = 0 5 0 0 61 0 0; judge(1, ..) = NONE NONE NONE 1 63 0 0");
        String sleeps = "a net goes to a room that is on, and comes from one that is off, and it is not held, or has a guard whose supply has level 0.";
        s.says(21, sleeps,
            SLEEPER,
            "step(4, 1, 0) = 1; judge(1, ..) = 0 5 0 0 61 0 0; guard(0, 0, 0) = 1; judge(1, ..) = 0 5 0 0 61 0 0;",
            "room(0, 1) = 0; judge(1, ..) = NONE NONE NONE 0 60 0 0; room(0, 0) = 1; wipe() = 1; step(0, 0, 0) = 1;",
            "step(4, 1, 0) = 2; judge(1, ..) = NONE NONE NONE 0 61 0 1; guard(0, 0, 1) = 1; judge(1, ..) = 1 5 0 0 61 0 1;",
            "guard(0, 0, 2) = 1; judge(1, ..) = 1 5 0 0 61 0 1; judge(2, ..) = NONE NONE NONE 3 61 0 1; step(4, 2, 0) = 3;",
            "judge(2, ..) = 2 5 0 0 61 0 1; room(0, 1) = 0; judge(2, ..) = NONE NONE NONE 0 60 0 1");
        s.says(21, sleeps,
            SLEEPER,
            "guard(0, 0, 2) = 1; step(0, 0, 0) = 1; judge(1, ..) = NONE NONE NONE 1 63 0 1; judge(0, ..) = 0 5 0 0 61 0 1;",
            "judge(3, ..) = NONE NONE NONE 3 61 0 1; net(0, 1) = 1; guard(1, 0, 3) = 1;",
            "judge(1, ..) = NONE NONE NONE 1 63 0 1; judge(3, ..) = NONE NONE NONE 3 61 0 1");
    }

    private void reasonSix() {
        String notReady = "a net goes to a room that is on, and comes from one that is on but not ready, and it is not held.";
        s.says(21, notReady,
            SLEEPER, "keep(1, 1, 0) = 0; step(4, 1, 1) = 1; judge(0, ..) = 0 6 0 1 61 2 0; guard(0, 0, 0) = 1;",
            "judge(0, ..) = NONE NONE NONE 1 61 2 1; guard(0, 0, 3) = 1; judge(0, ..) = NONE NONE NONE 1 61 2 1;",
            "step(1, 0, 0) = 2; judge(0, ..) = 1 6 0 1 61 2 0; wipe() = 2; step(4, 1, 1) = 1; step(3, 1, 0) = 2;",
            "step(1, 0, 0) = 3; judge(0, ..) = NONE NONE NONE 1 63 2 0");
        s.says(21, notReady,
            SLEEPER, "keep(1, 1, 0) = 0; room(0, 2) = 0; step(4, 1, 1) = 1; judge(0, ..) = NONE NONE NONE 1 60 2 0;",
            "step(4, 2, 1) = 2; judge(0, ..) = 1 6 0 2 61 2 0; keep(0, 1, 2) = 0; judge(0, ..) = 1 6 0 2 60 2 0;",
            "judge(3, ..) = 0 6 0 2 61 2 0; keep(1, 0, 0) = 1; judge(0, ..) = NONE NONE NONE 2 62 0 0");
    }

    private void strides() {
        String stride = "The strides from scene p to scene q are a sequence of scenes, beginning with p and ending with q, in which each scene but the first differs from the one before it in the level of exactly one supply";
        s.says(22, stride,
            "scene(1, 0, 0, 0) = 0; stride(0, 0, ..) = 0; scene(1, 1, 1, 0) = 1; stride(0, 1, ..) = none;",
            "stride(1, 1, ..) = 1; scene(1, 3, 0, 0) = 2; stride(0, 2, ..) = 0 2; stride(2, 0, ..) = 2 0;",
            "stride(2, 1, ..) = none; scene(2, 3, 0, 0) = 3; stride(0, 3, ..) = 0 2 3; stride(3, 0, ..) = 3 2 0;",
            "scene(1, 3, 1, 0) = 4; stride(0, 1, ..) = 0 2 4 1; stride(3, 1, ..) = 3 2 4 1; scene(3, 2, 2, 1) = 5;",
            "stride(5, 0, ..) = none");
        s.says(22, stride,
            EIGHT_IN_A_ROW,
            "stride(0, 7, ..) = 0 1 2 3 4 5 6 7; stride(7, 0, ..) = 7 6 5 4 3 2 1 0; stride(7, 7, ..) = 7;",
            "stride(5, 2, ..) = 5 4 3 2");
        s.says(22, "the shortest sequence is taken, of several the lexicographically smallest one.",
            "scene(1, 0, 0, 0) = 0; scene(1, 1, 1, 1) = 1; scene(1, 1, 0, 0) = 2; scene(1, 0, 1, 0) = 3;",
            "scene(1, 0, 1, 1) = 4; stride(0, 1, ..) = 0 3 4 1; scene(1, 1, 0, 1) = 5; stride(0, 1, ..) = 0 2 5 1;",
            "stride(1, 0, ..) = 1 4 3 0; scene(1, 1, 1, 0) = 6; stride(0, 1, ..) = 0 2 5 1; stride(3, 5, ..) = 3 0 2 5;",
            "stride(3, 1, ..) = 3 4 1");
        s.says(22, "the shortest sequence is taken, of several the lexicographically smallest one.",
            "scene(1, 0, 0, 0) = 0; scene(1, 3, 0, 0) = 1; scene(1, 1, 0, 0) = 2; scene(1, 2, 0, 0) = 3;",
            "stride(0, 1, ..) = 0 1; stride(3, 2, ..) = 3 2; scene(1, 1, 3, 0) = 4; scene(1, 3, 3, 0) = 5;",
            "stride(0, 5, ..) = 0 1 5; stride(0, 4, ..) = 0 2 4; stride(3, 5, ..) = 3 1 5; stride(5, 3, ..) = 5 1 3;",
            "stride(4, 1, ..) = 4 2 1");
    }

    private void plans() {
        s.says(23, "The plan from p to q is a script.",
            GUARDED, "step(4, 3, 3) = 1..5; plan(1, 0) = 2; steps = 0 0 0, 4 1 0; judge(1, ..) = NONE NONE NONE 0 61 0 1;",
            "step(2, 3, 0) = 3; plan(0, 0) = 0; many(3) = 0; stepAt(0, 0) = UNKNOWN");
        s.says(23, "It is made by going through the strides",
            EIGHT_IN_A_ROW,
            "plan(0, 7) = 7; steps = 4 1 1, 4 2 1, 4 3 1, 4 0 2, 4 1 2, 4 2 2, 4 3 2; judge(0, 3) = 7; judge(0, 0) = NONE;",
            "plan(7, 0) = 7; steps = 4 3 1, 4 2 1, 4 1 1, 4 0 1, 4 3 0, 4 2 0, 4 1 0; judge(7, 3) = 0");
        s.says(23, "It is made by going through the strides",
            "scene(1, 0, 0, 0) = 0; scene(1, 1, 1, 0) = 1; plan(0, 1) = STATE; scene(1, 0, 1, 0) = 2;",
            "scene(1, 1, 0, 0) = 3; plan(0, 1) = 2; steps = 4 2 1, 4 1 1; plan(3, 3) = 0; plan(3, 2) = 2;",
            "steps = 4 1 0, 4 2 1");
        String then = "held, ready and saved are at first as described for judging from p on, and then as the steps of the plan make them (whether a step would be bad does not matter).";
        s.says(23, then,
            ON_AND_OFF, "keep(1, 1, 0) = 0; net(1, 0) = 0; guard(0, 0, 0) = 1; net(2, 0) = 1; plan(0, 1) = 3;",
            "steps = 4 1 1, 3 1 0, 1 0 0; plan(0, 4) = 8; steps = 4 1 1, 3 1 0, 1 0 0, 4 2 2, 4 3 3, 0 0 0, 2 1 0, 4 1 0;",
            "judge(0, 0) = 7; judge(0, 1) = 5; judge(0, 2) = 1");
        s.says(23, then,
            ON_AND_OFF, "keep(1, 1, 2) = 0; plan(0, 4) = 4; steps = 4 1 1, 4 2 2, 4 3 3, 4 1 0; net(1, 0) = 0;",
            "judge(0, ..) = 0 6 0 1 61 0 0; plan(0, 4) = 4; plan(4, 0) = 5; steps = 4 1 1, 3 1 0, 4 3 0, 4 2 0, 4 1 0;",
            "keep(1, 1, 0) = 1; plan(4, 0) = 6; steps = 4 1 1, 3 1 0, 4 3 0, 4 2 0, 2 1 0, 4 1 0");
        s.says(23, then,
            OFF_AND_ON, "keep(1, 1, 0) = 0; net(1, 0) = 0; guard(0, 0, 0) = 1; plan(0, 3) = 7;",
            "steps = 0 0 0, 2 1 0, 4 1 0, 4 2 2, 4 1 2, 3 1 0, 1 0 0; judge(0, ..) = NONE NONE NONE 3 63 2 0");
        s.says(23, then,
            "room(1, 1) = 0; keep(1, 1, 2) = 0; scene(1, 1, 1, 0) = 0; scene(1, 0, 1, 0) = 1; scene(1, 0, 0, 0) = 2;",
            "scene(1, 2, 0, 0) = 3; plan(0, 1) = 2; steps = 2 1 0, 4 1 0; plan(0, 3) = 4; steps = 2 1 0, 4 1 0, 4 2 0, 4 1 2;",
            "judge(0, ..) = NONE NONE NONE 3 61 0 0");
        s.says(23, then,
            "room(1, 1) = 0; keep(1, 1, 2) = 0; scene(1, 1, 0, 0) = 0; scene(1, 0, 0, 0) = 1; scene(1, 0, 1, 0) = 2;",
            "scene(1, 2, 1, 0) = 3; scene(2, 2, 1, 0) = 4; scene(2, 2, 1, 1) = 5; scene(2, 0, 1, 1) = 6; plan(5, 6) = 2;",
            "steps = 2 1 0, 4 1 0; plan(0, 6) = 6; steps = 4 1 0, 4 2 1, 4 1 2, 4 0 2, 4 3 1, 4 1 0;",
            "judge(0, ..) = NONE NONE NONE 6 61 0 0");
        s.says(23, "For each scene b of the strides but the first, where a is the one before it, and s the supply that differs",
            GUARDED, "plan(0, 0) = 0; many(3) = 0; plan(0, 3) = 1; steps = 4 2 1; plan(2, 3) = 2; steps = 0 0 0, 4 1 0;",
            "plan(2, 0) = 3; steps = 4 2 0, 0 0 0, 4 1 0; plan(0, 2) = 3; steps = 4 1 1, 1 0 0, 4 2 1;",
            "scene(3, 0, 1, 0) = 4; plan(3, 4) = 1; steps = 4 0 3");
    }

    private void plansThatSwitchOff() {
        s.says(23, "hold, in ascending order, each net that has a guard, is not held, comes from a room fed by s, and goes to a room that is on in b",
            SLEEPER,
            "room(2, 1) = 0; room(3, 2) = 0; net(1, 0) = 1; net(0, 1) = 2; net(1, 2) = 3; net(1, 3) = 4; net(2, 0) = 5;",
            "plan(1, 0) = 1; steps = 4 1 0; guard(0, 0, 0) = 1; guard(2..5, 1, 3) = 1; plan(1, 0) = 3;",
            "steps = 0 0 0, 0 5 0, 4 1 0; plan(2, 3) = 4; steps = 0 0 0, 0 4 0, 0 5 0, 4 1 0; guard(1, 0, 0) = 1;",
            "plan(1, 0) = 4; steps = 0 0 0, 0 1 0, 0 5 0, 4 1 0; plan(3, 0) = 1; steps = 4 2 0");
        s.says(23, "comes from a room fed by s, and goes to a room that is on in b",
            GUARDED, "net(0, 2) = 1; guard(1, 0, 0) = 1; plan(1, 0) = 2; steps = 0 0 0, 4 1 0; plan(2, 3) = 2;",
            "steps = 0 0 0, 4 1 0; room(0, 2) = 0; plan(2, 3) = 2; steps = 0 0 0, 4 1 0; plan(3, 0) = 2;",
            "steps = 0 1 0, 4 2 0; plan(1, 0) = 1; steps = 4 1 0");
        s.says(23, "each net that has a guard, is not held",
            SLEEPER, "net(1, 0) = 1; net(1, 0) = 2; guard(2, 0, 0) = 1; room(2, 3) = 0; keep(2, 1, 0) = 0; judge(1, 5) = 4;",
            "plan(1, 0) = 2; steps = 0 2 0, 4 1 0; judge(1, ..) = 1 5 0 0 57 4 4");
        s.says(23, "then save, in ascending order, each room fed by s that is ready, has registers, and whose keeper has a level greater than 0 in b",
            SLEEPER,
            "room(0, 1) = 0; room(5, 1) = 0; keep(0..5, 1, 0) = 0; plan(1, 0) = 4; steps = 2 0 0, 2 1 0, 2 5 0, 4 1 0;",
            "keep(1, 0, 0) = 1; plan(1, 0) = 3; steps = 2 0 0, 2 5 0, 4 1 0; keep(0, 9, 1) = 1; plan(1, 0) = 2;",
            "steps = 2 5 0, 4 1 0; keep(5, 9, 2) = 1; plan(1, 0) = 1; plan(2, 3) = 2; steps = 2 5 0, 4 1 0;",
            "plan(2, 1) = 1; steps = 4 2 0");
        s.says(23, "each room fed by s that is ready, has registers, and whose keeper has a level greater than 0 in b",
            ON_AND_OFF,
            "keep(1, 1, 2) = 0; keep(2, 1, 0) = 0; plan(0, 4) = 6; steps = 4 1 1, 3 2 0, 4 2 2, 4 3 3, 2 2 0, 4 1 0;",
            "plan(3, 4) = 3; steps = 2 1 0, 2 2 0, 4 1 0");
        s.says(23, "each room fed by s that is ready, has registers, and whose keeper has a level greater than 0 in b",
            "room(1, 1) = 0; room(2, 3) = 0; keep(0..2, 1, 0) = 0; scene(1, 1, 0, 1) = 0; scene(1, 0, 0, 1) = 1;",
            "scene(1, 1, 0, 0) = 2; plan(0, 1) = 2; steps = 2 1 0, 4 1 0; plan(0, 2) = 2; steps = 2 2 0, 4 3 0;",
            "plan(1, 2) = 4; steps = 4 1 1, 3 1 0, 2 2 0, 4 3 0");
        s.says(23, "then set the level of s.",
            GUARDED,
            "keep(1, 1, 0) = 0; plan(1, 0) = 3; steps = 0 0 0, 2 1 0, 4 1 0; plan(2, 3) = 3; steps = 0 0 0, 2 1 0, 4 1 0;",
            "judge(2, ..) = NONE NONE NONE 3 61 2 1");
        s.says(23, "If the level of s is 0 in b",
            GUARDED,
            "scene(1, 3, 0, 0) = 4; plan(4, 0) = 2; steps = 0 0 0, 4 1 0; plan(4, 1) = 1; steps = 4 1 1; plan(1, 0) = 2;",
            "steps = 0 0 0, 4 1 0");
    }

    private void plansThatSwitchOn() {
        s.says(23, "If the level of s is 0 in a",
            GUARDED,
            "scene(1, 3, 0, 0) = 4; plan(0, 4) = 2; steps = 4 1 3, 1 0 0; plan(1, 4) = 1; steps = 4 1 3; plan(0, 1) = 2;",
            "steps = 4 1 1, 1 0 0");
        s.says(23, "If the level of s is 0 in a",
            "room(1, 1) = 0; keep(1, 1, 0) = 0; scene(1, 0, 0, 0) = 0; scene(1, 1, 0, 0) = 1; scene(1, 1, 0, 1) = 2;",
            "scene(1, 2, 0, 1) = 3; plan(0, 3) = 4; steps = 4 1 1, 3 1 0, 4 3 1, 4 1 2; plan(1, 3) = 2; steps = 4 3 1, 4 1 2");
        s.says(23, "set the level of s; then restore, in ascending order, each room fed by s that has registers and is saved",
            SLEEPER,
            "room(0, 1) = 0; room(5, 1) = 0; keep(0..5, 1, 0) = 0; plan(0, 1) = 4; steps = 4 1 1, 3 0 0, 3 1 0, 3 5 0;",
            "keep(1, 0, 0) = 1; plan(0, 1) = 3; steps = 4 1 1, 3 0 0, 3 5 0; keep(0, 1, 2) = 1; plan(0, 1) = 2;",
            "steps = 4 1 1, 3 5 0; plan(3, 2) = 3; steps = 4 1 1, 3 0 0, 3 5 0; plan(3, 1) = 3;",
            "steps = 4 2 0, 4 1 1, 3 5 0; keep(5, 1, 1) = 1; plan(0, 1) = 1; steps = 4 1 1; plan(0, 3) = 1; steps = 4 2 1");
        s.says(23, "then restore, in ascending order, each room fed by s that has registers and is saved",
            SLEEPER, "room(2, 3) = 0; keep(1..2, 1, 0) = 0; judge(0, 5) = 6; plan(0, 1) = 2; steps = 4 1 1, 3 1 0;",
            "plan(0, 3) = 1; steps = 4 2 1; room(2, 2) = 3; plan(0, 3) = 2; steps = 4 2 1, 3 2 0; plan(0, 2) = 4;",
            "steps = 4 1 1, 3 1 0, 4 2 1, 3 2 0");
        s.says(23, "then free, in ascending order, each net that is held and comes from a room fed by s.",
            SLEEPER,
            "room(2, 1) = 0; room(3, 2) = 0; net(1, 2) = 1; net(0, 1) = 2; net(3, 0) = 3; net(2, 0) = 4; net(1, 0) = 5;",
            "guard(1..4, 0, 0) = 1; keep(1, 1, 0) = 0; plan(0, 1) = 4; steps = 4 1 1, 3 1 0, 1 1 0, 1 4 0;",
            "judge(0, ..) = 0 6 0 1 53 2 26; plan(0, 3) = 2; steps = 4 2 1, 1 3 0; plan(0, 2) = 6;",
            "steps = 4 1 1, 3 1 0, 1 1 0, 1 4 0, 4 2 1, 1 3 0; guard(0, 1, 3) = 1; plan(0, 1) = 5;",
            "steps = 4 1 1, 3 1 0, 1 0 0, 1 1 0, 1 4 0");
        s.says(23, "then free, in ascending order, each net that is held and comes from a room fed by s.",
            OFF_AND_ON, "room(2, 1) = 0; net(1, 2) = 0; net(1, 0) = 1; guard(0..1, 0, 0) = 1; plan(0, 3) = 5;",
            "steps = 0 1 0, 4 1 0, 4 2 2, 4 1 2, 1 1 0; plan(1, 3) = 4; steps = 4 2 2, 4 1 2, 1 0 0, 1 1 0");
        s.says(23, "then free, in ascending order, each net that is held and comes from a room fed by s.",
            SLEEPER, "room(3, 2) = 0; net(1, 3) = 1; guard(1, 0, 0) = 1; plan(0, 1) = 2; steps = 4 1 1, 1 1 0;",
            "guard(0, 0, 0) = 1; open(1) = 1; keep(1, 1, 2) = 0; plan(0, 1) = 2; steps = 4 1 1, 1 0 0;",
            "judge(0, ..) = 1 6 0 1 53 0 0");
        s.says(23, "Otherwise set the level of s only.",
            GUARDED, "keep(0..5, 1, 0) = 0; scene(1, 3, 0, 0) = 4; scene(3, 3, 0, 0) = 5; plan(1, 4) = 1; steps = 4 1 3;",
            "plan(4, 1) = 1; steps = 4 1 1; plan(4, 5) = 1; steps = 4 0 3; plan(5, 4) = 1; steps = 4 0 1; plan(5, 1) = 2;",
            "steps = 4 0 1, 4 1 1");
        s.says(23, "Otherwise set the level of s only.",
            "room(1, 1) = 0; keep(1, 1, 0) = 0; net(1, 0) = 0; guard(0, 0, 0) = 1; scene(1, 0, 0, 0) = 0;",
            "scene(1, 1, 0, 0) = 1; scene(1, 1, 1, 0) = 2; scene(1, 3, 1, 0) = 3; plan(0, 3) = 5;",
            "steps = 4 1 1, 3 1 0, 1 0 0, 4 2 1, 4 1 3; judge(0, ..) = NONE NONE NONE 3 63 2 0; plan(3, 0) = 5;",
            "steps = 4 1 1, 4 2 0, 0 0 0, 2 1 0, 4 1 0; judge(3, ..) = NONE NONE NONE 0 61 2 1");
    }

    private void p18Step() {
        s.says(18, "Appends a step to the script.",
            "step(0, 1, 0) = 1; stepAt(0, 0) = 0; step(4, 2, 3) = 2; steps = 0 1 0, 4 2 3; step(4, 2, 3) = 3;",
            "steps = 0 1 0, 4 2 3, 4 2 3");
        s.says(18, "`kind`: 0 to 4",
            "step(0..4, 0, 0) = 1..5; stepAt(0..4, 0) = 0..4; step(!0..4, 0, 0) = OUTSIDE; many(3) = 5");
        s.says(18, "`x`: 0 to 15 for the kinds 0 and 1, 0 to 5 for 2 and 3, 0 to 3 for 4",
            "step(0, 0..15, 0) = 1..16; stepAt(0..15, 1) = 0..15; step(1, 0..15, 0) = 17..32; stepAt(16..31, 1) = 0..15;",
            "step(0, !0..15, 0) = OUTSIDE; step(1, !0..15, 0) = OUTSIDE; many(3) = 32");
        s.says(18, "`x`: 0 to 15 for the kinds 0 and 1, 0 to 5 for 2 and 3, 0 to 3 for 4",
            "step(2, 0..5, 0) = 1..6; stepAt(0..5, 1) = 0..5; step(3, 0..5, 0) = 7..12; stepAt(6..11, 1) = 0..5;",
            "step(4, 0..3, 0) = 13..16; stepAt(12..15, 1) = 0..3; step(2, !0..5, 0) = OUTSIDE;",
            "step(3, !0..5, 0) = OUTSIDE; step(4, !0..3, 0) = OUTSIDE; step(4, 4, 0) = OUTSIDE; step(2, 6, 0) = OUTSIDE;",
            "step(3, 15, 0) = OUTSIDE; many(3) = 16");
        s.says(18, "`y`: 0 to 3 for kind 4",
            "step(4, 3, 0..3) = 1..4; stepAt(0..3, 2) = 0..3; step(4, 0, !0..3) = OUTSIDE; step(4, 3, !0..3) = OUTSIDE;",
            "many(3) = 4; step(4, 0, 0..3) = 5..8; stepAt(4..7, 2) = 0..3");
        s.says(18, "any value for the others, which is taken as 0",
            "step(0, 0, !0..0) = 1..23; wipe() = 23; step(1, 0, MIN) = 1; step(1, 0, MAX) = 2; step(2, 0, MIN) = 3;",
            "step(2, 0, MAX) = 4; step(3, 0, MIN) = 5; step(3, 0, MAX) = 6; step(0, 0, -1) = 7; step(0, 0, 3) = 8;",
            "step(1, 1, 4) = 9; stepAt(0..8, 2) = 0");
        s.says(18, "Returns the number of steps",
            "step(0, 0, 0) = 1..40; wipe() = 40; step(2, 0, 0) = 1; step(3, 0, 0) = 2; anew() = 0; step(3, 0, 0) = 1");
        s.says(18, "OUTSIDE if an argument is out of its range",
            "step(5, 0, 0) = OUTSIDE; step(-1, 0, 0) = OUTSIDE; step(MIN, 0, 0) = OUTSIDE; step(MAX, 0, 0) = OUTSIDE;",
            "step(0, 16, 0) = OUTSIDE; step(2, 6, 0) = OUTSIDE; step(4, 4, 0) = OUTSIDE; step(4, 0, 4) = OUTSIDE;",
            "step(MAX, MAX, MAX) = OUTSIDE; step(MIN, MIN, MIN) = OUTSIDE; many(3) = 0; step(0, 0, 0) = 1..40;",
            "step(5, 0, 0) = OUTSIDE; step(0, 16, 0) = OUTSIDE; step(1, -1, 0) = OUTSIDE; step(2, 6, 0) = OUTSIDE;",
            "step(3, -1, 0) = OUTSIDE; step(4, 4, 0) = OUTSIDE; step(4, 0, 4) = OUTSIDE; step(4, 0, -1) = OUTSIDE;",
            "many(3) = 40");
        s.says(18, "FULL if there are 40 steps",
            "step(4, 1, 2) = 1..39; many(3) = 39; step(0, 15, 0) = 40; step(0, 0, 0) = FULL; step(1, 15, MAX) = FULL;",
            "step(2, 5, 0) = FULL; step(3, 0, 0) = FULL; step(4, 3, 3) = FULL; many(3) = 40; stepAt(39, 1) = 15;",
            "stepAt(38, 1) = 1; wipe() = 40; step(4, 3, 3) = 1");
    }

    private void p19Wipe() {
        s.says(19, "Removes all steps of the script.",
            "step(0, 0, 0) = 1; step(4, 1, 1) = 2; wipe() = 2; many(3) = 0; stepAt(0, 0) = UNKNOWN; step(2, 3, 0) = 1;",
            "steps = 2 3 0; scene(1, 0, 0, 0) = 0; judge(0, 0) = 0; wipe() = 1; judge(0, 0) = NONE");
        s.says(19, "Returns how many there were.",
            "wipe() = 0; wipe() = 0; step(0, 0, 0) = 1; wipe() = 1; wipe() = 0; step(0, 0, 0) = 1..40;",
            "step(0, 0, 0) = FULL; wipe() = 40; wipe() = 0; scene(1, 0, 0, 0) = 0; scene(1, 1, 0, 0) = 1; plan(0, 1) = 1;",
            "wipe() = 1");
    }

    private void p20StepAt() {
        s.says(20, "Returns a property of a step.",
            "step(4, 3, 2) = 1; step(0, 15, 2) = 2; stepAt(0, 0) = 4; stepAt(0, 1) = 3; stepAt(0, 2) = 2;",
            "stepAt(1, 0) = 0; stepAt(1, 1) = 15; stepAt(1, 2) = 0");
        s.says(20, "`k`: number of the step",
            "stepAt(0, 0) = UNKNOWN; step(3, 0, 0) = 1; stepAt(0, 0) = 3; stepAt(1, 0) = UNKNOWN; step(2, 0, 0) = 2..40;",
            "stepAt(0, 0) = 3; stepAt(1..39, 0) = 2; stepAt(!0..39, 0) = UNKNOWN");
        s.says(20, "`what`: 0: kind", "step(0..4, 1, 2) = 1..5; stepAt(0..4, 0) = 0..4");
        s.says(20, "1: x",
            "step(0, 15, 0) = 1; step(1, 0, 0) = 2; step(2, 5, 0) = 3; step(4, 3, 1) = 4; stepAt(0, 1) = 15;",
            "stepAt(1, 1) = 0; stepAt(2, 1) = 5; stepAt(3, 1) = 3");
        s.says(20, "2: y", "step(4, 1, 0..3) = 1..4; stepAt(0..3, 2) = 0..3; step(0, 1, 3) = 5; stepAt(4, 2) = 0");
        s.says(20, "Returns the property", "step(4, 1, 3) = 1; stepAt(0, 0) = 4; stepAt(0, 1) = 1; stepAt(0, 2) = 3");
        s.says(20, "UNKNOWN if there is no such step",
            "stepAt(0, 0..2) = UNKNOWN; stepAt(0, 3) = UNKNOWN; step(0, 0, 0) = 1; step(0, 0, 0) = 2;",
            "stepAt(!0..1, 0) = UNKNOWN; stepAt(!0..1, 2) = UNKNOWN; stepAt(!0..1, 3) = UNKNOWN; stepAt(2, -1) = UNKNOWN;",
            "stepAt(MIN, MIN) = UNKNOWN; stepAt(MAX, MAX) = UNKNOWN; wipe() = 2; stepAt(0, 0) = UNKNOWN");
        s.says(20, "OUTSIDE if what is out of range",
            "step(4, 1, 3) = 1; stepAt(0, !0..2) = OUTSIDE; step(0, 0, 0) = 2..40; stepAt(39, !0..2) = OUTSIDE;",
            "stepAt(39, 2) = 0");
    }

    private void p21Judge() {
        s.says(21, "Judges the script from a scene on.",
            GUARDED, "step(0, 0, 0) = 1; step(4, 1, 0) = 2; judge(1, ..) = NONE NONE NONE 0 61 0 1;",
            "judge(2, ..) = NONE NONE NONE 3 61 0 1; judge(0, ..) = NONE NONE NONE 0 61 0 1; step(4, 1, 2) = 3;",
            "judge(1, 0) = 2; steps = 0 0 0, 4 1 0, 4 1 2");
        s.says(21, "`scene`: number of the scene",
            "judge(0, 3) = UNKNOWN; scene(3, 0, 0, 0) = 0; judge(0, 3) = 0; judge(1, 3) = UNKNOWN; anew() = 0;",
            EIGHT_IN_A_ROW, "judge(0..7, 3) = 0..7; judge(!0..7, 3) = UNKNOWN");
        s.says(21, "NONE for 0 to 2 if there is no bad step, and for 2 with another reason",
            GUARDED,
            "judge(0, 0..2) = NONE; step(0, 0, 0) = 1; judge(0, 0..2) = NONE; step(0, 1, 0) = 2; judge(0, 0) = 1;",
            "judge(0, 1) = 1; judge(0, 2) = NONE; wipe() = 2; step(2, 1, 0) = 1; judge(0, 0) = 0; judge(0, 1) = 2;",
            "judge(0, 2) = NONE; wipe() = 1; step(3, 1, 0) = 1; judge(0, 1) = 3; judge(0, 2) = NONE; wipe() = 1;",
            "step(4, 1, 3) = 1; judge(0, 1) = 4; judge(0, 2) = NONE; wipe() = 1; step(1, 0, 0) = 1; judge(0, 1) = 5;",
            "judge(0, 2) = 0");
    }

    private void p21JudgeWhat() {
        s.says(21, "`what`: 0: the number of the first bad step",
            GUARDED,
            "judge(1, 0) = NONE; step(0, 5, 0) = 1; judge(1, 0) = 0; step(0, 5, 0) = 2; judge(1, 0) = 0; wipe() = 2;",
            "step(0, 0, 0) = 1..39; judge(1, 0) = NONE; step(4, 3, 3) = 40; judge(1, 0) = 39");
        s.says(21, "1: its reason",
            GUARDED,
            "judge(1, 1) = NONE; step(1, 1, 0) = 1; judge(1, 1) = 1; wipe() = 1; step(2, 1, 0) = 1; judge(1, 1) = 2;",
            "wipe() = 1; step(3, 1, 0) = 1; judge(1, 1) = 3; wipe() = 1; step(4, 0, 2) = 1; judge(1, 1) = 4; wipe() = 1;",
            "step(4, 1, 0) = 1; judge(1, 1) = 5; wipe() = 1; step(4, 1, 1) = 1; step(1, 0, 0) = 2; judge(0, 1) = NONE;",
            "keep(1, 1, 0) = 0; judge(0, 1) = 6");
        s.says(21, "2: for the reasons 5 and 6 the lowest net for which it applies",
            SLEEPER,
            "net(0, 1) = 1; net(1, 2) = 2; net(1, 0) = 3..15; step(4, 1, 0) = 1; judge(1, 2) = 0; guard(0..14, 0, 0) = 1;",
            "judge(1, 2) = 0; wipe() = 1; step(0, 0, 0) = 1; step(4, 1, 0) = 2; judge(1, 2) = 2; wipe() = 2;",
            "step(4, 1, 0) = 1; judge(0, 2) = 15; judge(0, 1) = 5; wipe() = 1; keep(1, 1, 0) = 0; step(4, 1, 1) = 1;",
            "judge(0, 1) = 6; judge(0, 2) = 15; open(2) = 1; judge(0, 2) = 2; guard(2, 0, 0) = 1; guard(15, 0, 0) = 1;",
            "judge(0, 2) = NONE");
        s.says(21, "3 to 6, after the last step that has been done (a bad step with reason 5 or 6 has been done): 3: the number of the scene with the levels then",
            SLEEPER,
            "judge(2, 3) = 2; step(4, 1, 0) = 1; judge(2, ..) = 0 5 0 3 61 0 0; step(4, 2, 0) = 2; judge(2, 3) = 3;",
            "wipe() = 2; keep(1, 1, 0) = 0; step(4, 1, 1) = 1; judge(0, ..) = 0 6 0 1 61 2 0; wipe() = 1;",
            "step(4, 1, 3) = 1; judge(1, ..) = 0 4 NONE 1 63 0 0; wipe() = 1; scene(1, 1, 0, 2) = 4; step(4, 3, 2) = 1;",
            "judge(1, ..) = NONE NONE NONE 4 63 0 0; judge(4, 3) = 4");
        s.says(21, "4: the set of the rooms that are ready",
            GUARDED,
            "judge(0, 4) = 61; judge(1, 4) = 63; step(4, 1, 1) = 1; judge(0, 4) = 63; keep(1, 1, 0) = 0; judge(0, 4) = 61;",
            "step(3, 1, 0) = 2; judge(0, 4) = 63; room(1, 0) = 1; judge(0, 4) = 63");
        s.says(21, "5: the set of the rooms that are saved",
            GUARDED,
            "judge(0, 5) = 0; keep(0..5, 1, 0) = 0; judge(0, 5) = 2; judge(1, 5) = 0; step(2, 0, 0) = 1; judge(0, 5) = 3;",
            "step(2, 5, 0) = 2; judge(0, 5) = 35; judge(1, 5) = 33");
        s.says(21, "6: the set of the nets that are held",
            GUARDED, "judge(0, 6) = 1; judge(1, 6) = 0; net(0, 1) = 1..15; guard(1..15, 0, 0) = 1; judge(0, 6) = 1;",
            "step(0, 15, 0) = 1; judge(0, 6) = 32769; judge(1, 6) = 32768; step(1, 15, 0) = 2; judge(1, 6) = 0");
    }

    private void p21JudgeRefused() {
        s.says(21, "Returns that number",
            GUARDED, "step(1, 0, 0) = 1; judge(0, ..) = 0 5 0 0 61 0 0; judge(3, ..) = 0 5 0 3 61 0 0;",
            "judge(2, ..) = NONE NONE NONE 2 63 0 0");
        s.says(21, "UNKNOWN if there is no such scene",
            "judge(0, 0..6) = UNKNOWN; judge(0, 7) = UNKNOWN; step(0, 0, 0) = 1; judge(0, 0) = UNKNOWN;",
            "scene(1, 0, 0, 0) = 0; scene(2, 0, 0, 0) = 1; judge(!0..1, 0) = UNKNOWN; judge(!0..1, 6) = UNKNOWN;",
            "judge(!0..1, 7) = UNKNOWN; judge(2, -1) = UNKNOWN; judge(MIN, MIN) = UNKNOWN; judge(MAX, MAX) = UNKNOWN;",
            "anew() = 0; judge(0, 3) = UNKNOWN");
        s.says(21, "OUTSIDE if what is out of range",
            GUARDED,
            "judge(0, !0..6) = OUTSIDE; step(0, 9, 0) = 1; judge(3, !0..6) = OUTSIDE; judge(0, 6) = 1; judge(0, 0) = 0");
    }

    private void p22Stride() {
        s.says(22, "Returns the strides from a scene to a scene.",
            EIGHT_IN_A_ROW, "stride(2, 5, ..) = 2 3 4 5; stride(5, 2, ..) = 5 4 3 2; stride(6, 6, ..) = 6");
        s.says(22, "`from`: number of the first scene",
            "stride(0, 0, 0) = UNKNOWN; scene(1, 0, 0, 0) = 0; stride(0, 0, 0) = 0; stride(1, 0, 0) = UNKNOWN; anew() = 0;",
            EIGHT_IN_A_ROW, "stride(0..7, 3, 0) = 0..7; stride(!0..7, 3, 0) = UNKNOWN; stride(!0..7, 3, NONE) = UNKNOWN");
        s.says(22, "`to`: number of the last scene, possibly the same",
            EIGHT_IN_A_ROW, "stride(0, 0, ..) = 0; stride(7, 7, ..) = 7; stride(0, 7, 7) = 7; stride(7, 0, 7) = 0;",
            "stride(3, !0..7, 0) = UNKNOWN; stride(3, !0..7, NONE) = UNKNOWN");
        s.says(22, "`k`: NONE for the number of scenes, both ends included; otherwise an index, 0 to 7, for the scene with this index",
            EIGHT_IN_A_ROW,
            "stride(4, 4, NONE) = 1; stride(4, 5, NONE) = 2; stride(0, 7, NONE) = 8; stride(0, 7, 0..7) = 0..7;",
            "stride(0, 7, !0..7|NONE) = OUTSIDE; stride(0, 7, -8) = OUTSIDE; stride(0, 7, -10) = OUTSIDE");
        s.says(22, "Returns that number",
            EIGHT_IN_A_ROW, "stride(1, 4, NONE) = 4; stride(1, 4, 0..3) = 1..4; stride(4, 1, 1) = 3");
        s.says(22, "NONE if there are no strides, or they have no such index",
            "scene(1, 0, 0, 0) = 0; scene(1, 1, 1, 0) = 1; stride(0, 1, NONE) = NONE; stride(0, 1, 0..7) = NONE;",
            "stride(0, 0, 0) = 0; stride(0, 0, 1..7) = NONE; scene(1, 1, 0, 0) = 2; stride(0, 1, 2) = 1;",
            "stride(0, 1, 3..7) = NONE; anew() = 0;",
            EIGHT_IN_A_ROW, "stride(0, 6, 6) = 6; stride(0, 6, 7) = NONE; stride(0, 7, 7) = 7");
        s.says(22, "UNKNOWN if there is no such scene (either one)",
            "stride(0, 0, NONE) = UNKNOWN; stride(0, 0, 8) = UNKNOWN; scene(1, 0, 0, 0) = 0; scene(2, 0, 0, 0) = 1;",
            "stride(!0..1, 0, 0) = UNKNOWN; stride(0, !0..1, 0) = UNKNOWN; stride(2, 2, 0) = UNKNOWN;",
            "stride(!0..1, 0, 8) = UNKNOWN; stride(0, !0..1, -1) = UNKNOWN; stride(2, 2, 8) = UNKNOWN;",
            "stride(MIN, MIN, MIN) = UNKNOWN; stride(MAX, MAX, MAX) = UNKNOWN");
        s.says(22, "OUTSIDE if k is neither NONE nor 0 to 7",
            "scene(1, 0, 0, 0) = 0; scene(1, 1, 1, 0) = 1; stride(0, 0, !0..7|NONE) = OUTSIDE;",
            "stride(0, 1, !0..7|NONE) = OUTSIDE; stride(0, 1, 8) = OUTSIDE; stride(0, 1, ..) = none");
    }

    private void p23Plan() {
        s.says(23, "Makes the plan from a scene to a scene the script.",
            GUARDED, "step(4, 3, 3) = 1..40; plan(1, 0) = 2; steps = 0 0 0, 4 1 0; plan(0, 1) = 2; steps = 4 1 1, 1 0 0;",
            "plan(1, 1) = 0; many(3) = 0; step(3, 2, 0) = 1; steps = 3 2 0");
        s.says(23, "`from`: number of the first scene",
            EIGHT_IN_A_ROW,
            "plan(0, 1) = 1; steps = 4 1 1; plan(7, 6) = 1; steps = 4 3 1; plan(!0..7, 6) = UNKNOWN; steps = 4 3 1");
        s.says(23, "`to`: number of the last scene, possibly the same",
            EIGHT_IN_A_ROW,
            "plan(6, 7) = 1; steps = 4 3 2; plan(6, !0..7) = UNKNOWN; steps = 4 3 2; plan(1, 0) = 1; steps = 4 1 0;",
            "plan(0, 0) = 0; many(3) = 0; plan(7, 7) = 0; many(3) = 0");
        s.says(23, "Returns the number of steps",
            LONG_PLAN,
            "plan(0, 0) = 0; plan(1, 2) = 1; plan(0, 1) = 19; plan(0, 2) = 20; plan(0, 3) = 39; plan(0, 4) = 40;",
            "many(3) = 40; plan(4, 4) = 0; many(3) = 0");
        s.says(23, "UNKNOWN if there is no such scene (either one)",
            "plan(0, 0) = UNKNOWN; step(2, 1, 0) = 1; plan(0, 0) = UNKNOWN; scene(1, 0, 0, 0) = 0; scene(1, 1, 1, 0) = 1;",
            "plan(!0..1, 0) = UNKNOWN; plan(0, !0..1) = UNKNOWN; plan(2, 2) = UNKNOWN; plan(MIN, MIN) = UNKNOWN;",
            "plan(MAX, MAX) = UNKNOWN; steps = 2 1 0; anew() = 0; plan(0, 0) = UNKNOWN");
        s.says(23, "STATE if there are no strides",
            "step(2, 1, 0) = 1; scene(1, 0, 0, 0) = 0; scene(1, 1, 1, 0) = 1; plan(0, 1) = STATE; plan(1, 0) = STATE;",
            "steps = 2 1 0; plan(1, 1) = 0; step(3, 1, 0) = 1..40; plan(0, 1) = STATE; many(3) = 40;",
            "scene(1, 1, 0, 0) = 2; plan(0, 1) = 2");
        s.says(23, "FULL if the plan has more than 40 steps",
            LONG_PLAN,
            "plan(0, 4) = 40; wipe() = 40; step(2, 1, 0) = 1; keep(3, 1, 0) = 0; plan(0, 3) = FULL; steps = 2 1 0;",
            "plan(0, 4) = FULL; steps = 2 1 0; plan(0, 5) = STATE; plan(0, 2) = 21; open(7) = 1; plan(0, 3) = 39;",
            "plan(0, 4) = 40; guard(7, 0, 0) = 1; plan(0, 4) = FULL; many(3) = 40; stepAt(39, 0) = 4; keep(3, 0, 0) = 1;",
            "plan(0, 4) = 40");
    }
}
