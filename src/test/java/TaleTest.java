/** Promises 23 (tale), 24 (lasts), 25 (half). */
public final class TaleTest {
    private static final long LONGS = 4000000000000000000L;

    public static void main(String[] args) {
        tale();
        taleRefused();
        lasts();
        half();
        Due.end();
    }

    private static void tale(ItWasLikeThat x, int n, int points, int first) {
        Due.due("tale(" + n + ", 0)", x.tale(n, 0), points);
        Due.due("tale(" + n + ", 1)", x.tale(n, 1), first);
    }

    private static void tale() {
        ItWasLikeThat x = Due.told("r33;c000;c000;b01;");
        tale(x, 0, 0, 1);
        tale(x, 4, 0, 1);
        tale(x, 5, 1, 11);
        tale(x, 9, 1, 11);
        tale(x, 10, 2, 0);
        tale(x, 11, 2, 0);
        tale(x, 12, 3, 10);
        tale(x, 13, 3, 10);
        tale(x, 14, 4, 2);
        tale(x, 16, 5, 12);
        tale(x, 17, 5, 12);
        tale(x, 18, 6, -9);
        tale(x, 99, 6, -9);
        x.deed(0, 0);
        tale(x, 10, 2, 1);
        tale(x, 14, 4, 2);
        x = Due.told("r26;c000;c000;c000;c000;b05;");
        tale(x, 59, 23, 34);
        tale(x, 60, 24, -9);
        tale(new ItWasLikeThat(), 0, 0, -9);
    }

    private static void taleRefused() {
        ItWasLikeThat x = Due.told("c000;");
        Due.refused(x, "tale(-1, 2)", x.tale(-1, 2), -4, 0);
        Due.refused(x, "tale(100, 2)", x.tale(100, 2), -6, 0);
        Due.refused(x, "tale(0, 2)", x.tale(0, 2), -2, 0);
        Due.refused(x, "tale(0, -1)", x.tale(0, -1), -2, 1);
    }

    private static void lasts(ItWasLikeThat x, int n, long above, long below) {
        Due.due("lasts(" + n + ", 0)", x.lasts(n, 0), above);
        Due.due("lasts(" + n + ", 1)", x.lasts(n, 1), below);
    }

    private static void lasts() {
        ItWasLikeThat x = Due.told("c000;c100;");
        lasts(x, 0, 1, 1);
        lasts(x, 1, 8, 25);
        lasts(x, 2, 64, 625);
        x = Due.told("c100;c100;c100;c100;");
        lasts(x, 4, 65536, 152587890625L);
        x = Due.told("c200;c400;c500;c390;");
        // 9, 7, 7 and 5 by ten each.
        lasts(x, 1, 441, 2000);
        lasts(x, 4, 441L * 441 * 441 * 441, 2000L * 2000 * 2000 * 2000);
        lasts(new ItWasLikeThat(), 4, 1, 1);
        Due.due("lasts(-1, 2)", x.lasts(-1, 2), LONGS + 4);
        Due.due("lasts(5, 2)", x.lasts(5, 2), LONGS + 6);
        Due.due("lasts(4, 2)", x.lasts(4, 2), LONGS + 2);
        Due.due("lasts(4, -1)", x.lasts(4, -1), LONGS + 2);
        Due.due("count(12)", x.count(12), 2);
        Due.due("count(14)", x.count(14), 1);
        Due.due("count(16)", x.count(16), 1);
    }

    private static void half() {
        Due.due("half() of nobody", new ItWasLikeThat().half(), -9);
        // 8000, 6400, 5120, 4096.
        Due.due("half() of a CHILD", Due.told("c000;").half(), 4);
        // 9000, 8100, 7290, 6561, 5904, 5313, 4781.
        Due.due("half() of a LOYAL", Due.told("c200;").half(), 7);
        Due.due("half() of a SMALL", Due.told("c100;").half(), 1);
        // 5000 is not less than 5000.
        Due.due("half() of a BOUGHT", Due.told("c390;").half(), 2);
        Due.due("half() of two", Due.told("c000;c400;").half(), 2);
    }
}
