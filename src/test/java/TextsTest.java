/** Promises 24 to 28: the tape, lines, texts of nets, counts. */
public final class TextsTest {
    private static final Calls CALLS = new Calls("TextsTest");

    public static void main(String[] args) {
        keys();
        lines();
        linesWithTwoDigits();
        linesWithErrors();
        faultsOfWords();
        faultsOfNumbers();
        tapeStaysWithAFault();
        texts();
        textsWrong();
        counts();
        CALLS.end();
    }

    private static void keys() {
        SleepingRooms x = CALLS.fresh("24 key and 25 blank",
            "key(0) = 1; key(127) = 2; key(128) = OUTSIDE; key(-1) = OUTSIDE; key(MIN) = OUTSIDE; many(4) = 2;",
            "blank() = 2; many(4) = 0; blank() = 0");
        for (int count = 1; count <= 24; count++) {
            CALLS.due("24 key", "key(110)", x.key(110), count);
        }
        CALLS.on(x, "24 key, full",
            "key(110) = FULL; key(128) = OUTSIDE; many(4) = 24; line() = -101; blank() = 24; key(110) = 1; line() = -101");
    }

    private static void lines() {
        CALLS.fresh("26 line",
            "'room 1 2' = 1000; ofRoom(1, 0) = 2; 'room 1 3' = 1002; many(4) = 0; 'near 1 2 1' = 1000;",
            "ofRoom(1, 3) = 4; 'near 2 1 0' = 1001; ofRoom(1, 3) = 0; 'net 3 4' = 1000; 'net 5 0' = 1001;",
            "ofNet(0, 0) = 3; ofNet(0, 1) = 4; 'scene 1 2 3 0' = 1000; levelIn(0, 0) = 1; levelIn(0, 1) = 2;",
            "levelIn(0, 2) = 3; levelIn(0, 3) = 0; 'guard 1 1 3' = 1001; ofNet(1, 2) = 1; ofNet(1, 3) = 3;",
            "'lift 1 2' = 1000; 'lift 1 3' = 1002; ofNet(1, 4) = 3; 'keep 5 9 3' = 1000; 'keep 5 0 1' = 1009;",
            "ofRoom(5, 1) = 0; ofRoom(5, 2) = 1; many(4) = 0");
    }

    private static void linesWithTwoDigits() {
        SleepingRooms x = new SleepingRooms();
        for (int n = 0; n < 16; n++) {
            CALLS.due("26 line", "net", Calls.typed(x, "net 00 05"), 1000 + n);
        }
        CALLS.on(x, "26 line, two digits",
            "'guard 15 01 03' = 1001; ofNet(15, 3) = 3; ofNet(15, 2) = 1; 'lift 09 3' = 1000; ofNet(9, 4) = 3;",
            "'lift 10 02' = 1000; ofNet(10, 4) = 2; 'scene 03 00 02 01' = 1000; levelIn(0, 3) = 1;",
            "'keep 05 09 00' = 1000; ofRoom(5, 1) = 9; 'near 00 5 01' = 1000; 'room 5 00' = 1000");
    }

    private static void linesWithErrors() {
        CALLS.fresh("26 line, the method's errors",
            "'net 0 0' = 997; many(4) = 0; 'guard 0 0 0' = 999; 'lift 15 0' = 999; 'near 2 2 1' = 997;",
            "'scene 0 1 1 1' = 997; 'scene 1 0 0 0' = 1000; 'scene 1 0 0 0' = 997; many(1) = 0; many(0) = 1;",
            "'scene 1 1 0 0' = 1001; 'scene 1 2 0 0' = 1002; 'scene 1 3 0 0' = 1003; 'scene 1 0 1 0' = 1004;",
            "'scene 1 0 2 0' = 1005; 'scene 1 0 3 0' = 1006; 'scene 1 0 0 1' = 1007; 'scene 1 0 0 2' = 996; many(4) = 0");
    }

    private static void faultsOfWords() {
        CALLS.fresh("26 line, faults of words",
            "'' = -100; 'x' = -100; ' room 1 1' = -100; 'Room 1 1' = -100; 'r' = -101; 'roo' = -103; 'room' = -104;",
            "'rx' = -101; 'ne' = -102; 'nex' = -102; 'nea' = -103; 'net' = -103; 'neat' = -103; 'neta 0 1' = -103;",
            "'nett' = -103; 'near' = -104; 'near0' = -104; 'scen 1' = -104; 'scene' = -105; 'scene1' = -105;",
            "'scene  1' = -106; 'guards' = -105; 'lifts' = -104; 'keep' = -104; 'kep' = -102; 'line' = -102;",
            "'open 0' = -100; 'mend' = -100; 'n' = -101; 's' = -101; 'g' = -101; 'l' = -101; 'k' = -101; 'noom' = -101");
    }

    private static void faultsOfNumbers() {
        CALLS.fresh("26 line, faults of numbers",
            "'room ' = -105; 'room  1 1' = -105; 'room a' = -105; 'room 6' = -105; 'room 5' = -106; 'room 05' = -107;",
            "'room 06' = -106; 'room 10' = -106; 'room 000' = -107; 'room 1,1' = -106; 'room 1 ' = -107;",
            "'room 1 4' = -107; 'room 1 04' = -108; 'room 1 003' = -109; 'room 1 3 ' = -108; 'room 1 03 ' = -109;",
            "'room 1 3x' = -108; 'room 1 30' = -108; 'room 1 -1' = -107; 'room 01  1' = -108;",
            "'near 0 1' = -108; 'near 0 1 2' = -109; 'near 0 1 02' = -110; 'near 0 1 1 1' = -110; 'net 6 0' = -104;",
            "'net 0 6' = -106; 'net 0 1 1' = -107; 'scene 1 2 3' = -111; 'scene 1 2 3 4' = -112; 'scene 4' = -106;",
            "'scene 1 2 3 0 0' = -113; 'guard 15 1' = -110; 'guard 16 0 0' = -107; 'guard 20 0 0' = -107;",
            "'guard 99' = -107; 'guard 015' = -108; 'guard 0 2 0' = -108; 'guard 0 1 4' = -110; 'lift 9 4' = -107;",
            "'lift 15 03' = 999; 'lift 150' = -107; 'keep 0 10 0' = -108; 'keep 0 09 4' = -110; 'keep 0 9 3 ' = -110;",
            "'keep 6' = -105; many(1) = 0; many(0) = 0; ofRoom(0, 1) = 0; ofRoom(1, 0) = 0");
        CALLS.fresh("26 line, signs beside the digits", "'room /' = -105; 'room :' = -105; 'room 0/' = -106; 'room 0:' = -106");
    }

    private static void tapeStaysWithAFault() {
        CALLS.fresh("26 the tape stays", "'room 1' = -106; many(4) = 6; line() = -106; key(32) = 7; key(51) = 8;",
            "line() = 1000; many(4) = 0; line() = -100; ofRoom(1, 0) = 3");
    }

    private static void textIs(SleepingRooms x, int n, String want) {
        StringBuilder got = new StringBuilder();
        for (int i = 0; i < x.text(n, -1) && i < 40; i++) {
            got.append((char) x.text(n, i));
        }
        CALLS.holds("27 text '" + got + "', due is '" + want + "'", want.contentEquals(got));
        CALLS.due("27 text", "text(" + n + ", length)", x.text(n, want.length()), SleepingRooms.NONE);
    }

    private static void texts() {
        SleepingRooms x = CALLS.fresh("27 text",
            "net(0, 5) = 0; net(5, 1) = 1; guard(1, 1, 3) = 1; lift(1, 3) = 0; room(5, 1) = 0;");
        textIs(x, 0, "a>f - none ");
        textIs(x, 1, "f>b g13 both ");
        CALLS.on(x, "27 text", "lift(0, 1) = 0; scene(2, 1, 0, 0) = 0; scene(2, 3, 0, 0) = 1; scene(2, 0, 0, 0) = 2;",
            "scene(2, 0, 0, 3) = 3");
        textIs(x, 0, "a>f - up 4000");
        textIs(x, 1, "f>b g13 both 0012");
        CALLS.on(x, "27 text", "guard(0, 0, 2) = 1; lift(0, 2) = 1; open(1) = 1; lift(1, 0) = 3; scene(1, 1, 1, 1) = 4;",
            "scene(1, 1, 1, 2) = 5; scene(1, 1, 1, 3) = 6; scene(3, 1, 1, 3) = 7");
        textIs(x, 0, "a>f g02 down 03000000");
        textIs(x, 1, "f>b - none 34110003");
    }

    private static void textsWrong() {
        CALLS.fresh("27 text, wrong",
            "text(0, 0) = UNKNOWN; text(0, 40) = UNKNOWN; net(2, 3) = 0; text(0, -1) = 11; text(0, 10) = 32;",
            "text(0, 11) = NONE; text(0, 39) = NONE; text(0, 40) = OUTSIDE; text(0, -2) = OUTSIDE; text(0, NONE) = OUTSIDE;",
            "text(1, 0) = UNKNOWN; text(-1, -2) = UNKNOWN; text(0, 0) = 99; text(0, 2) = 100; text(0, MAX) = OUTSIDE");
    }

    private static void counts() {
        CALLS.fresh("28 many",
            "scene(1, 0, 0, 0) = 0; scene(1, 2, 0, 0) = 1; room(1, 1) = 0; net(1, 0) = 0; net(2, 3) = 1; net(3, 2) = 2;",
            "guard(1, 0, 0) = 1; lift(1, 3) = 0; lift(2, 1) = 0; step(0, 0, 0) = 1; step(0, 0, 0) = 2;",
            "step(0, 0, 0) = 3; step(0, 0, 0) = 4; key(1) = 1; key(1) = 2; key(1) = 3; key(1) = 4; key(1) = 5;",
            "many(0) = 2; many(1) = 3; many(2) = 1; many(3) = 4; many(4) = 5; many(5) = 1; many(6) = 2;",
            "many(7) = OUTSIDE; many(-1) = OUTSIDE; many(MIN) = OUTSIDE; net(0, 1) = 3; many(5) = 2; guard(0, 0, 0) = 1;",
            "many(2) = 2; many(6) = 2; many(5) = 2; lift(0, 2) = 0; many(5) = 1");
    }
}
