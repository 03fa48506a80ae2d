/** Promises 4 (child), 5 (was), 6 (door), 7 (deed). */
public final class ChildrenTest {
    public static void main(String[] args) {
        child();
        was();
        door();
        deed();
        Due.end();
    }

    private static void kind(String letters, int[] want) {
        ItWasLikeThat x = Due.told(letters);
        for (int what = 0; what < 6; what++) {
            Due.due("child(0, " + what + ") of " + letters, x.child(0, what), want[what]);
        }
    }

    private static void child() {
        kind("c003;", new int[] {0, 0, 3, 0, 5, 2});
        kind("c192;", new int[] {1, 9, 2, 0, 6, 6});
        kind("c251;", new int[] {2, 5, 1, 0, 3, 1});
        kind("c300;", new int[] {3, 0, 0, 0, 3, 1});
        kind("c310;", new int[] {3, 1, 0, 0, 3, 1});
        kind("c320;", new int[] {3, 2, 0, 0, 3, 2});
        kind("c370;", new int[] {3, 7, 0, 0, 3, 4});
        kind("c390;", new int[] {3, 9, 0, 0, 3, 5});
        kind("c490;", new int[] {4, 9, 0, 0, 8, 3});
        kind("c590;", new int[] {5, 9, 0, 0, 6, 3});
        ItWasLikeThat x = Due.told("c000;c112;");
        Due.due("child(1, 2)", x.child(1, 2), 2);
        Due.refused(x, "child(2, 0)", x.child(2, 0), -1, 0);
        Due.refused(x, "child(-1, 0)", x.child(-1, 0), -1, 1);
        Due.refused(x, "child(0, 6)", x.child(0, 6), -2, 0);
        Due.refused(x, "child(0, -1)", x.child(0, -1), -2, 1);
        Due.refused(x, "child(2, 6)", x.child(2, 6), -1, 2);
    }

    private static void was() {
        ItWasLikeThat x = Due.told("r43;d03;d12;c000;c000;t0033;t1112;");
        int[][] want = {{0, 3, 3}, {1, 1, 2}};
        for (int c = 0; c < 2; c++) {
            for (int m = 0; m < 3; m++) {
                Due.due("was(" + c + ", " + m + ")", x.was(c, m), want[c][m]);
            }
        }
        Due.refused(x, "was(2, 0)", x.was(2, 0), -1, 0);
        Due.refused(x, "was(-1, 0)", x.was(-1, 0), -1, 1);
        Due.refused(x, "was(0, 3)", x.was(0, 3), -1, 2);
        Due.refused(x, "was(0, -1)", x.was(0, -1), -1, 3);
    }

    private static void door() {
        ItWasLikeThat x = Due.told("r42;d03;d21;");
        for (int a = 0; a < 4; a++) {
            for (int b = 0; b < 4; b++) {
                if (a != b) {
                    Due.due("door(" + a + ", " + b + ")", x.door(a, b), a + b == 3 ? 1 : 0);
                }
            }
        }
        Due.refused(x, "door(1, 1)", x.door(1, 1), -1, 0);
        Due.refused(x, "door(0, 4)", x.door(0, 4), -1, 1);
        Due.refused(x, "door(4, 0)", x.door(4, 0), -1, 2);
        Due.refused(x, "door(-1, 0)", x.door(-1, 0), -1, 3);
        Due.refused(x, "door(0, -1)", x.door(0, -1), -1, 4);
        Due.due("d again", Due.tell(x, "d30;"), 1);
        Due.due("door(0, 3)", x.door(0, 3), 0);
        Due.due("door(1, 2)", x.door(1, 2), 1);
    }

    private static void deed() {
        ItWasLikeThat x = Due.told("r36;");
        Due.due("deed(2, 5)", x.deed(2, 5), 0);
        Due.due("deed(1, 0)", x.deed(1, 0), 25);
        Due.due("count(6)", x.count(6), 10);
        Due.refused(x, "deed(3, 0)", x.deed(3, 0), -1, 0);
        Due.refused(x, "deed(0, 6)", x.deed(0, 6), -1, 1);
        Due.refused(x, "deed(-1, 0)", x.deed(-1, 0), -1, 2);
        Due.refused(x, "deed(0, -1)", x.deed(0, -1), -1, 3);
        Due.due("deed(1, 0)", x.deed(1, 0), 10);
    }
}
