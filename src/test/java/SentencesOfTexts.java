/** Promises 24 to 28, and the description's paragraph on the tape and its lines. */
final class SentencesOfTexts {
    /** One line for each word, with the greatest numbers, and what it answers on a new object. */
    private static final String[][] LINES = {{"room 5 3", "1000"}, {"near 5 4 1", "1000"}, {"net 5 0", "1000"},
        {"scene 1 0 3 2", "1000"}, {"guard 15 1 3", "999"}, {"lift 15 3", "999"}, {"keep 5 9 3", "1000"}};

    /** Types "scene 01 02 03 0"; with one digit more, it is as long as a line can be: 17 codes. */
    private static final String LONGEST = "key(115) = 1; key(99) = 2; key(101) = 3; key(110) = 4; key(101) = 5;"
        + "key(32) = 6; key(48) = 7; key(49) = 8; key(32) = 9; key(48) = 10; key(50) = 11; key(32) = 12; key(48) = 13;"
        + "key(51) = 14; key(32) = 15; key(48) = 16;";

    private final Sentences s;

    private SentencesOfTexts(Sentences s) {
        this.s = s;
    }

    static void tell(Sentences sentences) {
        SentencesOfTexts texts = new SentencesOfTexts(sentences);
        texts.tape();
        texts.lines();
        texts.numbers();
        texts.faultsInLines();
        texts.numbersTooGreat();
        texts.thirdDigits();
        texts.endsTooEarly();
        texts.p24Key();
        texts.p25Blank();
        texts.p26Line();
        texts.p26LineWithErrors();
        texts.p27TextParts();
        texts.p27Text();
        texts.p28Many();
    }

    private void tape() {
        String tape = "There is a tape with at most 24 codes, which are those of ASCII (digits 48 to 57, letters a to z 97 to 122, > 62, - 45).";
        s.says(24, tape,
            "many(4) = 0; key(48) = 1..23; many(4) = 23; key(57) = 24; key(57) = FULL; many(4) = 24; blank() = 24;",
            "key(97) = 1; key(122) = 2; key(62) = 3; key(45) = 4; key(!0..127) = OUTSIDE; many(4) = 4");
        s.says(26, tape,
            "key(107) = 1; key(101) = 2; key(101) = 3; key(112) = 4; key(32) = 5; key(48) = 6; key(32) = 7; key(57) = 8;",
            "key(32) = 9; key(51) = 10; line() = 1000; ofRoom(0, 1) = 9; ofRoom(0, 2) = 3; 'room /' = -105;",
            "'room :' = -105; 'room 0/' = -106; 'room 0:' = -106; 'room 0 0/' = -108; 'room 0 0:' = -108; 'room -' = -105;",
            "'room >' = -105");
        s.says(27, tape,
            "net(0, 5) = 0; text(0, 0) = 97; text(0, 1) = 62; text(0, 2) = 102; text(0, 3) = 32; text(0, 4) = 45;",
            "guard(0, 1, 3) = 1; text(0, 4) = 103; text(0, 5) = 49; text(0, 6) = 51");
    }

    private void lines() {
        String line = "A line is one of these: room R S near R R V net R R scene L L L L guard N V S lift N W keep R K S";
        s.says(26, line,
            "'room 5 3' = 1000; ofRoom(5, 0) = 3; 'room 5 0' = 1003; 'near 5 0 1' = 1000; ofRoom(5, 3) = 1;",
            "'near 0 5 0' = 1001; ofRoom(5, 3) = 0; 'net 5 0' = 1000; ofNet(0, 0) = 5; ofNet(0, 1) = 0;",
            "'scene 3 2 1 0' = 1000; levelIn(0, 0) = 3; levelIn(0, 1) = 2; levelIn(0, 2) = 1; levelIn(0, 3) = 0;",
            "'guard 0 1 3' = 1001; ofNet(0, 2) = 1; ofNet(0, 3) = 3; 'lift 0 3' = 1000; ofNet(0, 4) = 3;",
            "'lift 0 0' = 1003; 'keep 5 9 3' = 1000; ofRoom(5, 1) = 9; ofRoom(5, 2) = 3; 'keep 5 0 0' = 1009");
        s.says(26, line,
            "'open 0' = -100; 'anew' = -100; 'mend' = -100; 'way 0 1' = -100; 'step 0 0 0' = -101; 'wipe' = -100;",
            "'plan 0 0' = -100; 'key 1' = -102; 'blank' = -100; 'line' = -102; 'text 0' = -100; 'many 0' = -100;",
            "'stride' = -101; 'fault 0 0' = -100; 'judge' = -100; 'levelIn' = -101; 'scenes' = -105; 'nets' = -103;",
            "'rooms' = -104; 'guards' = -105; 'lifts' = -104; 'keeper' = -104; 'nearer' = -104");
        String form = "that is, a word in small letters, and behind it, for each number, one blank (32) and its digits (1 or 2 digits, a leading 0 is allowed), and nothing else.";
        s.says(26, form,
            "'ROOM 1 2' = -100; 'Room 1 2' = -100; 'rooM 1 2' = -103; ' room 1 2' = -100; 'room  1 2' = -105;",
            "'room 1  2' = -107; 'room 1 2 ' = -108; 'room1 2' = -104; 'room 12' = -106; 'room 1 2 3' = -108;",
            "'room\t1 2' = -104; 'room 1 2' = 1000; ofRoom(1, 0) = 2; 'room 01 3' = 1002; 'room 1 00' = 1003;",
            "'room 05 03' = 1000; ofRoom(5, 0) = 3; 'room 1 2.' = -108; 'room +1 2' = -105; 'room -1 2' = -105;",
            "'room 1,2' = -106");
        s.says(26, form,
            "'net 00 01' = 1000; 'net 4 05' = 1001; 'net 05 4' = 1002; ofNet(1, 0) = 4; ofNet(1, 1) = 5;",
            "'guard 02 01 03' = 1001; ofNet(2, 2) = 1; ofNet(2, 3) = 3; 'lift 00 02' = 1000; 'lift 01 00' = 1000;",
            "'lift 0 00' = 1002; 'near 00 05 01' = 1000; 'near 0 5 01' = 1001; 'near 05 0 00' = 1001;",
            "'keep 05 09 03' = 1000; 'keep 5 00 03' = 1009; 'scene 03 02 01 00' = 1000; 'scene 3 02 1 0' = 997");
        s.says(26, form,
            "net(0, 1) = 0..15; 'guard : 0 0' = -106; 'guard ? 0 0' = -106; 'guard / 0 0' = -106; 'lift : 1' = -105;",
            "'lift ? 1' = -105; 'lift 0: 1' = -106; 'lift 0? 1' = -106; 'lift 1/ 1' = -106; 'lift 1: 1' = -106;",
            "'guard a 0 0' = -106; 'lift A 0' = -105; many(2) = 0; ofNet(0..15, 4) = 0; 'lift 15 1' = 1000");
    }

    private void numbers() {
        String ranges = "R is 0 to 5, S, L and W are 0 to 3, V 0 to 1, N 0 to 15, K 0 to 9.";
        s.says(26, ranges,
            "'room 0 0' = 1000; 'room 5 0' = 1000; 'room 6 0' = -105; 'room 0 3' = 1000; 'room 0 4' = -107;",
            "'near 0 5 0' = 1000; 'near 5 0 1' = 1000; 'near 6 0 0' = -105; 'near 0 6 0' = -107; 'near 0 5 2' = -109;",
            "ofRoom(0, 3) = 32; 'net 0 5' = 1000; 'net 5 0' = 1001; 'net 6 0' = -104; 'net 0 6' = -106; many(1) = 2;",
            "'keep 0 0 0' = 1000; 'keep 5 9 3' = 1000; 'keep 6 0 0' = -105; 'keep 0 10 0' = -108; 'keep 0 0 4' = -109;",
            "ofRoom(0, 1) = 0");
        s.says(26, ranges,
            "'scene 3 3 3 3' = 1000; 'scene 1 0 0 0' = 1001; 'scene 4 0 0 0' = -106; 'scene 1 4 0 0' = -108;",
            "'scene 1 0 4 0' = -110; 'scene 1 0 0 4' = -112; 'scene 0 0 0 0' = 997; many(0) = 2; net(0, 1) = 0..15;",
            "'guard 0 0 0' = 1001; 'guard 15 1 3' = 1001; 'guard 16 0 0' = -107; 'guard 15 2 0' = -109;",
            "'guard 15 0 4' = -111; 'lift 0 0' = 1000; 'lift 15 3' = 1000; 'lift 16 0' = -106; 'lift 15 4' = -108;",
            "ofNet(15, 4) = 3; ofNet(15, 3) = 3; many(2) = 2");
        s.says(26, ranges,
            "net(0, 1) = 0..15; 'lift 9 1' = 1000; 'lift 09 2' = 1001; 'lift 10 3' = 1000; 'lift 14 2' = 1000;",
            "'lift 15 1' = 1000; ofNet(9, 4) = 2; ofNet(10, 4) = 3; ofNet(14, 4) = 2; ofNet(15, 4) = 1;",
            "'guard 10 1 1' = 1001; ofNet(10, 3) = 1; 'guard 9 0 2' = 1001; ofNet(9, 3) = 2; ofNet(1, 4) = 0;",
            "ofNet(0, 4) = 0; ofNet(1, 3) = NONE; 'lift 19 1' = -106; 'lift 20 1' = -106; 'lift 90 1' = -106;",
            "'lift 99 1' = -106");
    }

    /** Each line with a sign that is in no line, put in place of each of its codes, and behind the last one. */
    private void faultsInLines() {
        for (String[] line : LINES) {
            StringBuilder rows = new StringBuilder();
            for (int i = 0; i <= line[0].length(); i++) {
                String rest = i < line[0].length() ? line[0].substring(i + 1) : "";
                rows.append("'").append(line[0], 0, i).append("!").append(rest).append("' = ").append(-100 - i).append(";");
            }
            s.says(26, "The fault of a tape that is no line is the position, from 0, of the first code with which, behind the codes before it, no line can begin",
                rows.toString(), "many(0..2) = 0; ofRoom(5, 0..3) = 0; '" + line[0] + "' = " + line[1]);
        }
        s.says(26, "the first code with which, behind the codes before it, no line can begin",
            "'x' = -100; 'rx' = -101; 'nx' = -101; 'no' = -101; 'nex' = -102; 'nez' = -102; 'neax' = -103; 'neat' = -103;",
            "'neta' = -103; 'net r' = -104; 'nett' = -103; 'kx' = -101; 'lx' = -101; 'gx' = -101; 'sx' = -101;",
            "'rr' = -101; 'xroom 1 2' = -100; 'roomnet' = -104; 'net 0 1net 0 1' = -107; many(1) = 0; key(0) = 15;",
            "line() = -107; blank() = 15; key(0) = 1; line() = -100; blank() = 1; key(127) = 1; line() = -100");
        s.says(26, "the first code with which, behind the codes before it, no line can begin",
            LONGEST,
            "key(48) = 17; key(32) = 18; line() = -117; key(48) = 19..24; line() = -117; many(4) = 24; many(0) = 0");
    }

    private void numbersTooGreat() {
        String great = "for a number that is too great, this is the digit with which it becomes too great";
        s.says(26, great,
            "'room 6' = -105; 'room 9' = -105; 'room 06' = -106; 'room 10' = -106; 'room 50' = -106; 'room 55' = -106;",
            "'room 0 4' = -107; 'room 0 04' = -108; 'room 0 10' = -108; 'room 0 30' = -108; 'near 0 1 2' = -109;",
            "'near 0 1 02' = -110; 'near 0 1 10' = -110; 'near 0 1 11' = -110; 'net 0 9' = -106; 'net 0 09' = -107;",
            "'net 0 51' = -107; 'scene 4' = -106; 'scene 04' = -107; 'scene 13' = -107; 'scene 1 2 3 33' = -113");
        s.says(26, great,
            "'guard 16' = -107; 'guard 19' = -107; 'guard 20' = -107; 'guard 99' = -107; 'guard 0 2' = -108;",
            "'guard 0 02' = -109; 'guard 15 1 4' = -111; 'lift 16' = -106; 'lift 30' = -106; 'lift 15 4' = -108;",
            "'lift 15 04' = -109; 'lift 15 10' = -109; 'keep 0 10' = -108; 'keep 0 90' = -108; 'keep 0 99' = -108;",
            "'keep 0 9 4' = -109; 'keep 0 09 4' = -110; 'keep 0 09 04' = -111; 'keep 06' = -106; many(4) = 7;",
            "ofRoom(0, 1) = 0");
    }

    private void thirdDigits() {
        s.says(26, "a third digit is a fault, too.",
            "'room 000' = -107; 'room 001 1' = -107; 'room 1 000' = -109; 'room 1 003' = -109; 'near 0 1 001' = -111;",
            "'near 000' = -107; 'net 005' = -106; 'net 0 000' = -108; 'scene 001' = -108; 'scene 1 000' = -110;",
            "'scene 1 0 000' = -112; 'scene 1 0 0 003' = -114; 'keep 0 000' = -109; 'keep 0 009' = -109;",
            "'keep 0 9 000' = -111; ofRoom(0, 1) = 0; ofRoom(1, 0) = 0; many(0) = 0");
        s.says(26, "a third digit is a fault, too.",
            "net(0, 1) = 0..15; 'guard 000' = -108; 'guard 015' = -108; 'guard 100' = -108; 'guard 150' = -108;",
            "'guard 115' = -108; 'guard 0 001' = -110; 'guard 0 1 003' = -112; 'lift 010' = -107; 'lift 150' = -107;",
            "'lift 15 000' = -110; 'lift 15 003' = -110; many(2) = 0; ofNet(15, 4) = 0; 'lift 15 03' = 1000;",
            "'guard 015 0 0' = -108");
    }

    /** Each beginning of each line, the empty one too, is short of something. */
    private void endsTooEarly() {
        String early = "If there is no such code, but the tape ends too early (also if it is empty), it is the number of codes.";
        for (String[] line : LINES) {
            StringBuilder rows = new StringBuilder();
            for (int i = 0; i < line[0].length(); i++) {
                rows.append("'").append(line[0], 0, i).append("' = ").append(-100 - i).append(";");
                rows.append("many(4) = ").append(i).append(";");
            }
            s.says(26, early, rows.toString(), "'" + line[0] + "' = " + line[1]);
        }
        s.says(26, early,
            "line() = -100; line() = -100; many(4) = 0; key(32) = 1; line() = -100; blank() = 1; line() = -100;",
            "'room 05' = -107; 'room 05 ' = -108; 'net 0' = -105; 'net 00 ' = -107; 'lift 0' = -106; 'lift 15 ' = -108;",
            "'scene 03 02 01' = -114; 'scene 03 02 01 ' = -115");
    }

    private void p24Key() {
        s.says(24, "Appends a code to the tape.",
            "key(110) = 1; key(101) = 2; line() = -102; key(116) = 3; line() = -103; key(32) = 4; key(48) = 5;",
            "key(32) = 6; key(49) = 7; line() = 1000; many(4) = 0; key(120) = 1; line() = -100");
        s.says(24, "`code`: 0 to 127",
            "key(0) = 1; key(1) = 2; key(127) = 3; key(126) = 4; key(128) = OUTSIDE; key(-1) = OUTSIDE;",
            "key(!0..127) = OUTSIDE; many(4) = 4");
        s.says(24, "Returns the number of codes",
            "key(0) = 1..24; blank() = 24; key(127) = 1..24; blank() = 24; key(65) = 1");
        s.says(24, "OUTSIDE if code is out of range",
            "key(!0..127) = OUTSIDE; many(4) = 0; line() = -100; key(0) = 1..24; key(!0..127) = OUTSIDE;",
            "key(MIN) = OUTSIDE; key(MAX) = OUTSIDE; many(4) = 24");
        s.says(24, "FULL if there are 24",
            "key(114) = 1..23; many(4) = 23; key(0) = 24; key(0) = FULL; key(127) = FULL; key(114) = FULL; many(4) = 24;",
            "line() = -101; many(4) = 24; key(1) = FULL; anew() = 0; key(1) = FULL; blank() = 24; key(1) = 1");
    }

    private void p25Blank() {
        s.says(25, "Empties the tape.",
            "key(114) = 1; key(120) = 2; line() = -101; blank() = 2; many(4) = 0; line() = -100; 'net 0 1' = 1000;",
            "key(114) = 1; blank() = 1; many(1) = 1; key(110) = 1; line() = -101");
        s.says(25, "Returns the number of codes that it had.",
            "blank() = 0; blank() = 0; key(0) = 1; blank() = 1; blank() = 0; key(0) = 1..24; key(0) = FULL; blank() = 24;",
            "blank() = 0; key(128) = OUTSIDE; blank() = 0");
    }

    private void p26Line() {
        String carries = "Carries out the line on the tape, by the method with the same name as its word (room, near, net, scene, guard, lift, keep), and empties the tape.";
        s.says(26, carries,
            "'room 2 3' = 1000; many(4) = 0; ofRoom(2, 0) = 3; 'near 2 4 1' = 1000; many(4) = 0; ofRoom(2, 3) = 16;",
            "'net 2 4' = 1000; many(4) = 0; ofNet(0, 0) = 2; ofNet(0, 1) = 4; 'scene 3 1 2 0' = 1000; many(4) = 0;",
            "levelIn(0, 0) = 3; levelIn(0, 1) = 1; levelIn(0, 2) = 2; levelIn(0, 3) = 0; 'guard 0 1 2' = 1001;",
            "many(4) = 0; ofNet(0, 2) = 1; ofNet(0, 3) = 2; 'lift 0 3' = 1000; many(4) = 0; ofNet(0, 4) = 3;",
            "'keep 2 9 1' = 1000; many(4) = 0; ofRoom(2, 1) = 9; ofRoom(2, 2) = 1; line() = -100; 'scene 3 0 1 2' = 1001;",
            "levelIn(1, 0) = 3; levelIn(1, 1) = 0; levelIn(1, 2) = 1; levelIn(1, 3) = 2; levelIn(0, 3) = 0");
        s.says(26, carries,
            LONGEST, "key(48) = 17; line() = 1000; many(4) = 0; levelIn(0, 0) = 1; levelIn(0, 1) = 2; levelIn(0, 2) = 3;",
            "levelIn(0, 3) = 0; line() = -100; many(0) = 1");
        s.says(26, carries,
            "'near 2 4 1' = 1000; 'near 2 4 0' = 1001; ofRoom(2, 3) = 0; 'near 4 4 0' = 997; many(4) = 0; line() = -100;",
            "'net 3 3' = 997; many(4) = 0; line() = -100; 'lift 0 1' = 999; many(4) = 0; line() = -100; 'guard 0 0 0' = 999;",
            "many(4) = 0; 'scene 0 0 0 0' = 997; many(4) = 0; key(110) = 1; line() = -101; many(0..2) = 0");
        String nothing = "-100 minus the fault if the tape is no line (nothing is done then, and the tape stays).";
        s.says(26, nothing,
            "line() = -100; 'room 1 4' = -107; many(4) = 8; line() = -107; many(4) = 8; ofRoom(1, 0) = 0; key(48) = 9;",
            "line() = -107; blank() = 9; 'net 0 1 2' = -107; many(1) = 0; 'scene 1 0 0 0 0' = -113; many(0) = 0;",
            "'keep 1 9 3 0' = -110; ofRoom(1, 1) = 0");
        s.says(26, nothing,
            "'room 1' = -106; key(32) = 7; line() = -107; key(50) = 8; line() = 1000; many(4) = 0; ofRoom(1, 0) = 2;",
            "key(114) = 1..24; line() = -101; many(4) = 24; key(114) = FULL; line() = -101; blank() = 24; line() = -100");
    }

    private void p26LineWithErrors() {
        String returns = "Returns 1000 plus what that method returns, which may be an error code";
        s.says(26, returns,
            "'room 1 3' = 1000; 'room 1 0' = 1003; 'near 1 2 1' = 1000; 'near 2 1 1' = 1001; 'keep 1 9 0' = 1000;",
            "'keep 1 0 0' = 1009; 'guard 0 0 0' = 999; many(4) = 0; 'lift 0 0' = 999; many(4) = 0; 'near 3 3 1' = 997;",
            "many(4) = 0; 'net 3 3' = 997; many(4) = 0; many(1) = 0; 'scene 0 1 1 1' = 997; many(4) = 0; many(0) = 0;",
            "'scene 1 1 1 1' = 1000; 'scene 1 1 1 1' = 997; 'net 0 1' = 1000; 'guard 0 0 0' = 1001; 'guard 1 0 0' = 999;",
            "'lift 0 2' = 1000; 'lift 0 0' = 1002; 'lift 1 0' = 999");
        s.says(26, returns,
            "net(0, 1) = 0..14; 'net 0 1' = 1015; 'net 0 1' = 996; many(4) = 0; 'net 1 1' = 997;",
            "scene(1, 0, 0, 0..3) = 0..3; scene(1, 1, 0, 0..2) = 4..6; 'scene 3 3 3 3' = 1007; 'scene 2 2 2 2' = 996;",
            "many(4) = 0; 'scene 3 3 3 3' = 997; 'scene 0 2 2 2' = 997; 'guard 15 1 3' = 1001; 'lift 15 3' = 1000;",
            "many(0) = 8; many(1) = 16; ofNet(15, 2) = 1");
    }

    private void p27TextParts() {
        s.says(27, "the letter of the room from which it comes (a for room 0, to f), \">\", the letter of the room to which it goes",
            "net(0, 5) = 0; net(1, 4) = 1; net(2, 3) = 2; net(3, 2) = 3; net(4, 1) = 4; net(5, 0) = 5; text(0, 0) = 97;",
            "text(1, 0) = 98; text(2, 0) = 99; text(3, 0) = 100; text(4, 0) = 101; text(5, 0) = 102; text(0..5, 1) = 62;",
            "text(0, 2) = 102; text(1, 2) = 101; text(2, 2) = 100; text(3, 2) = 99; text(4, 2) = 98; text(5, 2) = 97;",
            "text(0, ..) = 'a>f - none '; text(5, ..) = 'f>a - none '");
        s.says(27, "a blank; \"g\" and the digits of value and supply of its guard, or \"-\" if it has none",
            "net(1, 2) = 0; text(0, ..) = 'b>c - none '; guard(0, 0, 0) = 1; text(0, ..) = 'b>c g00 none ';",
            "guard(0, 1, 3) = 1; text(0, ..) = 'b>c g13 none '; open(0) = 1; text(0, ..) = 'b>c - none '");
        s.says(27, "a blank; none, up, down or both for its lift",
            "net(1, 2) = 0; text(0, ..) = 'b>c - none '; lift(0, 1) = 0; text(0, ..) = 'b>c - up '; lift(0, 2) = 1;",
            "text(0, ..) = 'b>c - down '; lift(0, 3) = 2; text(0, ..) = 'b>c - both '; lift(0, 0) = 3;",
            "text(0, ..) = 'b>c - none '");
        s.says(27, "a blank; and the digits of its faults in all scenes, in ascending order.",
            "room(1, 1) = 0; room(2, 2) = 0; net(1, 2) = 0; guard(0, 0, 3) = 1; text(0, ..) = 'b>c g03 none ';",
            "scene(1, 1, 1, 0) = 0; text(0, ..) = 'b>c g03 none 0'; scene(1, 0, 1, 0) = 1; scene(1, 0, 1, 3) = 2;",
            "scene(1, 1, 3, 0) = 3; scene(1, 3, 1, 0) = 4; text(0, ..) = 'b>c g03 none 01234'; scene(1, 3, 0, 0) = 5;",
            "scene(1, 0, 2, 0) = 6; scene(1, 2, 1, 0) = 7; text(0, ..) = 'b>c g03 none 01234014'; lift(0, 3) = 0;",
            "text(0, ..) = 'b>c g03 both 01200010'");
    }

    private void p27Text() {
        s.says(27, "Returns a character of the text of a net. The text consists of",
            "net(0, 1) = 0; net(4, 3) = 1; lift(1, 1) = 0; text(0, ..) = 'a>b - none '; text(1, ..) = 'e>d - up ';",
            "scene(1, 0, 0, 0) = 0; room(4, 3) = 0; text(0, ..) = 'a>b - none 0'; text(1, ..) = 'e>d - up 1'");
        s.says(27, "`n`: number of the net",
            "text(0, 0) = UNKNOWN; net(0, 1) = 0; text(0, 0) = 97; text(1, 0) = UNKNOWN; net(5, 1) = 1..15;",
            "text(0, 0) = 97; text(1..15, 0) = 102; text(!0..15, 0) = UNKNOWN; text(!0..15, -1) = UNKNOWN");
        s.says(27, "`i`: index of the character, from 0, at most 39; -1 for the length of the text",
            "net(2, 3) = 0; text(0, -1) = 11; text(0, 0) = 99; text(0, 10) = 32; text(0, 11..39) = NONE;",
            "text(0, 40) = OUTSIDE; text(0, -2) = OUTSIDE; text(0, !-1..39) = OUTSIDE");
        s.says(27, "Returns the code of the character, or the length",
            "net(2, 3) = 0; text(0, -1) = 11; guard(0, 0, 0) = 1; text(0, -1) = 13; lift(0, 1) = 0; text(0, -1) = 11;",
            "lift(0, 2) = 1; text(0, -1) = 13; scene(1, 0, 0, 0..3) = 0..3; scene(2, 0, 0, 0..3) = 4..7; text(0, -1) = 21;",
            "text(0, 20) = 48; text(0, 21) = NONE");
        s.says(27, "NONE if there is no such index",
            "net(2, 3) = 0; text(0, 10) = 32; text(0, 11..39) = NONE; scene(1, 0, 0, 0) = 0; text(0, 11) = 48;",
            "text(0, 12..39) = NONE; lift(0, 1) = 0; text(0, 9) = 48; text(0, 10..39) = NONE");
        s.says(27, "UNKNOWN if there is no such net",
            "text(0, -1) = UNKNOWN; text(0, 0..39) = UNKNOWN; text(0, 40) = UNKNOWN; net(2, 3) = 0;",
            "text(!0..0, 0) = UNKNOWN; text(!0..0, 39) = UNKNOWN; text(!0..0, 40) = UNKNOWN; text(1, -2) = UNKNOWN;",
            "text(MIN, MIN) = UNKNOWN; text(MAX, MAX) = UNKNOWN");
        s.says(27, "OUTSIDE if i is not -1 to 39",
            "net(2, 3) = 0; text(0, !-1..39) = OUTSIDE; text(0, -2) = OUTSIDE; text(0, 40) = OUTSIDE;",
            "text(0, MIN) = OUTSIDE; text(0, MAX) = OUTSIDE; text(0, NONE) = OUTSIDE; text(0, 39) = NONE;",
            "text(0, -1) = 11");
    }

    private void p28Many() {
        s.says(28, "Returns a count.",
            "many(0..6) = 0; scene(1, 0, 0, 0) = 0; room(1, 1) = 0; net(1, 0) = 0; net(0, 1) = 1; guard(1, 0, 0) = 1;",
            "step(0, 0, 0) = 1..3; key(1) = 1..4; many(0) = 1; many(1) = 2; many(2) = 1; many(3) = 3; many(4) = 4;",
            "many(5) = 1; many(6) = 1");
        s.says(28, "`what`: 0: scenes",
            "many(0) = 0; scene(1, 0, 0, 0) = 0; many(0) = 1; scene(1, 0, 0, 0) = STATE; many(0) = 1;",
            "scene(1, 0, 0, 1..3) = 1..3; scene(2, 0, 0, 0..3) = 4..7; many(0) = 8; scene(3, 0, 0, 0) = FULL; many(0) = 8;",
            "anew() = 0; many(0) = 0");
        s.says(28, "1: nets",
            "many(1) = 0; net(0, 0) = STATE; many(1) = 0; net(0, 1) = 0..15; many(1) = 16; net(0, 1) = FULL; many(1) = 16;",
            "anew() = 16; many(1) = 0");
        s.says(28, "2: nets with a guard",
            "many(2) = 0; net(0, 1) = 0..15; many(2) = 0; guard(0..15, 0, 0) = 1; many(2) = 16; guard(0, 1, 3) = 1;",
            "many(2) = 16; open(15) = 1; many(2) = 15; anew() = 16; many(2) = 0; net(0, 1) = 0; many(2) = 0");
        s.says(28, "3: steps",
            "many(3) = 0; step(0, 0, 0) = 1..40; many(3) = 40; step(0, 0, 0) = FULL; many(3) = 40; wipe() = 40;",
            "many(3) = 0; step(4, 4, 0) = OUTSIDE; many(3) = 0");
        s.says(28, "4: codes on the tape",
            "many(4) = 0; key(0) = 1..24; many(4) = 24; key(0) = FULL; many(4) = 24; anew() = 0; many(4) = 24;",
            "blank() = 24; many(4) = 0; 'net 0 1' = 1000; many(4) = 0; 'net 0' = -105; many(4) = 5");
        s.says(28, "5: nets with a fault other than 0 in some scene",
            "many(5) = 0; room(1, 1) = 0; net(1, 0) = 0..15; many(5) = 0; scene(1, 1, 0, 0) = 0; many(5) = 0;",
            "scene(1, 0, 0, 0) = 1; many(5) = 16; scene(1, 2, 0, 0) = 2; many(5) = 16; guard(0, 0, 0) = 1; many(5) = 16;",
            "lift(0, 2) = 0; many(5) = 15; guard(1..15, 0, 0) = 1; lift(1..15, 3) = 0; many(5) = 0; guard(15, 0, 1) = 1;",
            "many(5) = 1");
        s.says(28, "6: nets with useless parts",
            "many(6) = 0; net(1, 0) = 0..15; many(6) = 0; guard(0..14, 0, 0) = 1; many(6) = 15; lift(15, 1) = 0;",
            "many(6) = 16; lift(0, 3) = 0; many(6) = 16; room(1, 1) = 0; scene(1, 0, 0, 0) = 0; many(6) = 2;",
            "scene(2, 1, 0, 0) = 1; many(6) = 1; scene(1, 2, 0, 0) = 2; many(6) = 0");
        s.says(28, "Returns the count", "many(0..6) = 0; net(0, 1) = 0; many(1) = 1; many(2) = 0");
        s.says(28, "OUTSIDE if what is out of range",
            "many(!0..6) = OUTSIDE; many(7) = OUTSIDE; many(-1) = OUTSIDE; many(MIN) = OUTSIDE; many(MAX) = OUTSIDE;",
            "net(0, 1) = 0; many(!0..6) = OUTSIDE; many(1) = 1; many(6) = 0");
    }
}
