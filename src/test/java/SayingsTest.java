/** Promises 16 (says), 17 (hush), 18 (holds), 19 (together), 20 (most). */
public final class SayingsTest {
    public static void main(String[] args) {
        says();
        holdsAndTogether();
        most();
        eight();
        manyMosts();
        Due.end();
    }

    private static ItWasLikeThat three() {
        ItWasLikeThat x = Due.told("r32;d01;c000;c000;");
        Due.due("says, the first", x.says(1, 0, 0, 0), 0);
        Due.due("says, the second", x.says(1, 0, 1, 2), 1);
        Due.due("says, the third", x.says(0, 0, 1, 1), 2);
        return x;
    }

    private static void says() {
        ItWasLikeThat x = three();
        Due.refused(x, "says(2, ..)", x.says(2, 0, 0, 0), -1, 0);
        Due.refused(x, "says(-1, ..)", x.says(-1, 0, 0, 0), -1, 1);
        Due.refused(x, "says(.., 2, ..)", x.says(0, 2, 0, 0), -1, 2);
        Due.refused(x, "says of MINUTE 2", x.says(0, 0, 2, 0), -1, 3);
        Due.refused(x, "says of MINUTE -1", x.says(0, 0, -1, 0), -1, 4);
        Due.refused(x, "says of ROOM 3", x.says(0, 0, 0, 3), -1, 5);
        Due.refused(x, "says of ROOM -1", x.says(0, 0, 0, -1), -1, 6);
        Due.due("count(5)", x.count(5), 3);
        Due.due("hush()", x.hush(), 3);
        Due.due("count(5)", x.count(5), 0);
        Due.due("hush()", x.hush(), 0);
        Due.due("says anew", x.says(0, 1, 1, 1), 0);
    }

    private static void holdsAndTogether() {
        ItWasLikeThat x = three();
        Due.due("holds(0)", x.holds(0), 2);
        Due.due("holds(1)", x.holds(1), 1);
        Due.due("holds(2)", x.holds(2), 2);
        int[] want = {1, 1, 1, 0, 1, 1, 0, 0};
        for (int set = 0; set < 8; set++) {
            Due.due("together(" + set + ")", x.together(set), want[set]);
        }
        x.fact(0, 1, 0, 0);
        Due.due("holds(0) by a FACT", x.holds(0), 1);
        x.fact(0, 1, 2, 0);
        Due.due("holds(1) by a FACT", x.holds(1), 0);
        Due.due("together(2) by a FACT", x.together(2), 0);
        Due.due("together(5) by a FACT", x.together(5), 1);
        Due.refused(x, "holds(3)", x.holds(3), -1, 0);
        Due.refused(x, "holds(-1)", x.holds(-1), -1, 1);
        Due.refused(x, "together(8)", x.together(8), -1, 2);
        Due.refused(x, "together(-1)", x.together(-1), -1, 3);
        Due.refused(x, "together(least)", x.together(Integer.MIN_VALUE), -1, 4);
        x.hush();
        Due.refused(x, "together(1) of none", x.together(1), -1, 5);
        Due.due("together(0) of none", x.together(0), 1);
        Due.refused(x, "holds(0) of none", x.holds(0), -1, 6);
    }

    private static void mosts(ItWasLikeThat x, int... want) {
        for (int what = 0; what < 4; what++) {
            Due.due("most(" + what + ")", x.most(what), want[what]);
        }
    }

    private static void most() {
        ItWasLikeThat x = three();
        mosts(x, 2, 5, 0, 2);
        x.fact(0, 1, 2, 0);
        mosts(x, 2, 5, 2, 2);
        x.fact(0, 0, 1, 1);
        // Neither of 1's can be; what 0 says holds.
        mosts(x, 1, 4, 2, 2);
        x.fact(0, 1, 0, 1);
        mosts(x, 0, 0, 3, 3);
        Due.refused(x, "most(4)", x.most(4), -2, 0);
        Due.refused(x, "most(-1)", x.most(-1), -2, 1);
    }

    private static void eight() {
        ItWasLikeThat x = Due.told("r22;c000;c000;");
        for (int i = 0; i < 8; i++) {
            Due.due("says", x.says(i % 2, i / 4, 0, 0), i);
        }
        Due.refused(x, "the ninth", x.says(0, 0, 0, 0), -6, 0);
        Due.refused(x, "the ninth of nobody", x.says(0, 2, 0, 0), -1, 0);
        mosts(x, 8, 255, 0, 0);
        Due.due("together(255)", x.together(255), 1);
        Due.refused(x, "together(256)", x.together(256), -1, 1);
    }

    /** Two that can't both be: each is in some set of the greatest number, so nobody must lie. */
    private static void manyMosts() {
        ItWasLikeThat x = Due.told("r22;c000;c000;c000;");
        x.says(0, 0, 0, 1);
        x.says(1, 0, 1, 0);
        x.says(2, 1, 0, 0);
        mosts(x, 2, 5, 0, 0);
        x.says(1, 0, 0, 0);
        // Now 0 is alone against two of 1.
        mosts(x, 3, 14, 0, 1);
    }
}
