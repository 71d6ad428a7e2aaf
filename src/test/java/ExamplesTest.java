/** The three examples that close the document's description. */
public final class ExamplesTest {
    public static void main(String[] args) {
        Calls calls = new Calls("ExamplesTest");
        calls.fresh("1 scenes, a net that is mended, and a plan",
            "scene(1, 0, 0, 0) = 0; scene(1, 2, 0, 0) = 1; room(1, 1) = 0; net(1, 0) = 0; fault(0, 0) = 1;",
            "fault(0, 1) = 4; mend() = 1; ofNet(0, 3) = 0; keep(1, 4, 0) = 0; plan(1, 0) = 3; stepAt(0, 0) = 0;",
            "judge(1, 3) = 0; judge(1, 5) = 2; text(0, -1) = 15; text(0, 3) = 32; stride(1, 0, -9) = 2");
        calls.fresh("2 a line of text",
            "key(115) = 1; key(99) = 2; key(101) = 3; key(110) = 4; key(101) = 5; key(32) = 6; key(49) = 7;",
            "key(32) = 8; key(48) = 9; key(50) = 10; key(32) = 11; key(51) = 12; key(32) = 13; key(48) = 14;",
            "line() = 1000; levelIn(0, 1) = 2");
        calls.fresh("3 faults and errors",
            "key(110) = 1; key(101) = 2; key(97) = 3; key(114) = 4; key(32) = 5; key(48) = 6; key(32) = 7;",
            "key(54) = 8; line() = -107; blank() = 8; step(4, 0, 0) = 1; judge(0, 0) = -1;",
            "scene(0, 1, 1, 1) = -3; way(0, 0, 1) = -3; way(0, 1, -9) = -9; many(5) = 0");
        calls.end();
    }
}
