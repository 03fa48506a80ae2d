/** Promises 26 (law), 27 (byLaws), 28 (old), 31 (learn). */
public final class LawsTest {
    public static void main(String[] args) {
        named();
        notNamed();
        ofHowMany();
        lawRefused();
        byLaws();
        old();
        learn();
        Due.end();
    }

    private static void law(ItWasLikeThat x, int doer, int law, int v, int... want) {
        for (int what = 0; what < 4; what++) {
            Due.due("law(" + doer + ", " + law + ", " + v + ", " + what + ")", x.law(doer, law, v, what), want[what]);
        }
    }

    /** 1 and 3 name 0 truly, 2 covers for it. */
    private static void named() {
        ItWasLikeThat x = Due.told("r32;b10;c000;c100;c200;c000;t011;");
        law(x, 0, 0, 51, 25, 51, 1, 0);
        law(x, 0, 1, 51, 51, 51, 1, 0);
        law(x, 0, 2, 51, 51, 51, 1, 0);
        law(x, 0, 3, 51, 0, 51, 1, 0);
        Due.due("byLaws(0, 51)", x.byLaws(0, 51), 15);
        // What it says of itself does not name it.
        x = Due.told("r32;b10;c100;c200;c500;t011;");
        Due.due("byLaws of one that only itself names", x.byLaws(0, 50), 12);
        // One is named falsely, too.
        x = Due.told("r32;b10;c000;c470;");
        law(x, 0, 1, 9, 9, 9, 1, 0);
        law(x, 1, 1, 9, 9, 0, 0, 0);
    }

    private static void notNamed() {
        ItWasLikeThat x = Due.told("r32;b10;c000;c000;c000;");
        law(x, 0, 0, 50, 25, 16, 0, 32);
        law(x, 0, 1, 50, 50, 0, 0, 0);
        law(x, 0, 2, 50, 50, 50, 1, 0);
        law(x, 0, 3, 50, 0, 0, 1, 0);
        law(x, 2, 0, 99, 49, 33, 0, 66);
        law(x, 2, 0, 1, 0, 0, 1, 0);
        law(x, 2, 0, 2, 1, 0, 0, 0);
        law(x, 1, 1, 0, 0, 0, 1, 0);
    }

    private static void ofHowMany() {
        ItWasLikeThat x = Due.told("b10;c000;c000;c000;c000;");
        law(x, 3, 0, 99, 49, 24, 0, 72);
        x = Due.told("b10;c000;c000;");
        law(x, 0, 0, 99, 49, 49, 1, 0);
        x = Due.told("b10;c000;");
        law(x, 0, 0, 99, 49, 99, 1, 0);
        law(x, 0, 1, 99, 99, 0, 0, 0);
    }

    private static void lawRefused() {
        ItWasLikeThat x = Due.told("c000;");
        Due.refused(x, "law(1, ..)", x.law(1, 4, -1, 4), -1, 0);
        Due.refused(x, "law(-1, ..)", x.law(-1, 0, 0, 0), -1, 1);
        Due.refused(x, "law(0, 4, ..)", x.law(0, 4, -1, 4), -2, 0);
        Due.refused(x, "law(0, -1, ..)", x.law(0, -1, 0, 0), -2, 1);
        Due.refused(x, "law(.., -1, 4)", x.law(0, 3, -1, 4), -4, 0);
        Due.refused(x, "law(.., 100, 4)", x.law(0, 3, 100, 4), -6, 0);
        Due.refused(x, "law(.., 4)", x.law(0, 3, 99, 4), -2, 2);
        Due.refused(x, "law(.., -1)", x.law(0, 3, 99, -1), -2, 3);
    }

    private static void byLaws() {
        ItWasLikeThat x = Due.told("r32;b10;c000;c000;c000;");
        Due.due("byLaws(0, 50)", x.byLaws(0, 50), 12);
        Due.due("byLaws(0, 1)", x.byLaws(0, 1), 13);
        Due.due("byLaws(0, 0)", x.byLaws(0, 0), 15);
        Due.due("byLaws(0, 99)", x.byLaws(0, 99), 12);
        Due.refused(x, "byLaws(3, -1)", x.byLaws(3, -1), -1, 0);
        Due.refused(x, "byLaws(-1, 0)", x.byLaws(-1, 0), -1, 1);
        Due.refused(x, "byLaws(0, -1)", x.byLaws(0, -1), -4, 0);
        Due.refused(x, "byLaws(0, 100)", x.byLaws(0, 100), -6, 0);
    }

    private static void old() {
        ItWasLikeThat x = new ItWasLikeThat();
        Due.due("old(100, 10, 5, 0)", x.old(100, 10, 5, 0), 9);
        Due.due("old(100, 10, 5, 1)", x.old(100, 10, 5, 1), 10);
        Due.due("old(3, 1, 9, 0)", x.old(3, 1, 9, 0), 0);
        Due.due("old(3, 1, 9, 1)", x.old(3, 1, 9, 1), 12);
        Due.due("old(0, 1, 0, 0)", x.old(0, 1, 0, 0), 0);
        Due.due("old(999, 99, 9, 0)", x.old(999, 99, 9, 0), 10);
        Due.due("old(999, 99, 9, 1)", x.old(999, 99, 9, 1), 10);
        Due.due("old(999, 1, 9, 1)", x.old(999, 1, 9, 1), 1008);
        Due.refused(x, "old(-1, 100, ..)", x.old(-1, 100, 10, 2), -4, 0);
        Due.refused(x, "old(1000, 0, ..)", x.old(1000, 0, 0, 0), -4, 1);
        Due.refused(x, "old(1000, 100, -1, 2)", x.old(1000, 100, -1, 2), -4, 2);
        Due.refused(x, "old(1000, ..)", x.old(1000, 1, 0, 2), -6, 0);
        Due.refused(x, "old(.., 100, ..)", x.old(0, 100, 0, 0), -6, 1);
        Due.refused(x, "old(.., 10, 0)", x.old(0, 1, 10, 0), -6, 2);
        Due.refused(x, "old(.., 2)", x.old(0, 1, 0, 2), -2, 0);
        Due.refused(x, "old(.., -1)", x.old(0, 1, 0, -1), -2, 1);
    }

    private static void learn() {
        ItWasLikeThat x = Due.told("r32;b10;c000;c000;c100;t211;");
        // Under WHOLE 0 and 1 would not own up; 2 is named by both of them.
        Due.due("learn(1, 1, 50)", x.learn(1, 1, 50), 2);
        Due.due("learn(5, 1, 50)", x.learn(5, 1, 50), 10);
        Due.due("learn(9, 1, 50)", x.learn(9, 1, 50), 18);
        Due.due("learn(20, 1, 50)", x.learn(20, 1, 50), 18);
        Due.due("learn(20, 1, 0)", x.learn(20, 1, 0), 0);
        Due.due("learn(3, 0, 50)", x.learn(3, 0, 50), 6);
        Due.due("learn(20, 2, 99)", x.learn(20, 2, 99), 0);
        Due.due("learn(20, 3, 99)", x.learn(20, 3, 99), 0);
        Due.due("in mind", x.count(9), 0);
        Due.due("in mind", x.child(0, 3), 0);
        Due.due("in mind", x.child(0, 5), 2);
        Due.due("nobody learns", new ItWasLikeThat().learn(20, 1, 50), 0);
        Due.refused(x, "learn(0, 4, 100)", x.learn(0, 4, 100), -4, 0);
        Due.refused(x, "learn(21, 4, -1)", x.learn(21, 4, -1), -4, 1);
        Due.refused(x, "learn(21, 4, 0)", x.learn(21, 4, 0), -6, 0);
        Due.refused(x, "learn(1, 4, 100)", x.learn(1, 4, 100), -6, 1);
        Due.refused(x, "learn(1, 4, 0)", x.learn(1, 4, 0), -2, 0);
        Due.refused(x, "learn(1, -1, 0)", x.learn(1, -1, 0), -2, 1);
    }
}
