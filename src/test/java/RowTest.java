/** Promises 32 (row), 33 (judge), 34 (seeds). */
public final class RowTest {
    public static void main(String[] args) {
        row();
        judge();
        seedsWithoutDoors();
        seedsWithDoors();
        seedsOfMany();
        seedsRefused();
        Due.end();
    }

    private static void row() {
        ItWasLikeThat x = new ItWasLikeThat();
        for (int i = 1; i <= 12; i++) {
            Due.due("row", x.row(i % 10), i);
        }
        Due.refused(x, "row, the 13th", x.row(0), -6, 0);
        Due.refused(x, "row(-1) when full", x.row(-1), -4, 0);
        Due.due("count(8)", x.count(8), 12);
        x.judge();
        Due.due("count(8)", x.count(8), 0);
        Due.due("row(9)", x.row(9), 1);
        Due.refused(x, "row(10)", x.row(10), -6, 1);
        Due.due("count(8)", x.count(8), 1);
    }

    private static void judged(ItWasLikeThat x, int want, int... numbers) {
        Due.row(x, numbers);
        StringBuilder call = new StringBuilder("judge() of");
        for (int number : numbers) {
            call.append(' ').append(number);
        }
        Due.due(call.toString(), x.judge(), want);
        Due.due("the ROW behind it", x.count(8), 0);
    }

    /** 0 CHILD, THERE; 1 SMALL, not THERE; 2 SILENT. */
    private static void judge() {
        ItWasLikeThat x = Due.told("r33;b21;c000;c100;c500;t0222;t1000;t2111;");
        judged(x, -9);
        judged(x, -9, 0, 0, 0);
        judged(x, 2, 0, 0, 2);
        judged(x, -9, 1, 0, 2);
        judged(x, 2, 1, 0, 9);
        judged(x, -9, 2, 0, 9);
        judged(x, 2, 2, 0, 2);
        judged(x, -9, 0, 1, 0, 1, 2, 1, 2, 2, 9, 0, 2, 1);
        judged(x, 11, 0, 1, 0, 1, 2, 1, 2, 2, 9, 0, 2, 2);
        judged(x, 5, 0, 1, 0, 1, 2, 2, 2, 2, 2);
        judged(x, 0, 3, 0, 0);
        judged(x, 1, 0, 3, 0);
        judged(x, 3, 0, 0, 0, 9, 9, 9);
        judged(x, 4, 0, 0, 0, 0, 9, 9);
        // Where an unwhole three begins.
        judged(x, 0, 1);
        judged(x, 0, 1, 0);
        judged(x, 3, 0, 0, 0, 1);
        judged(x, 3, 0, 0, 0, 1, 2);
        judged(x, 2, 0, 0, 1, 1, 2);
        // It is not looked into.
        judged(x, 3, 0, 0, 0, 7);
        judged(x, 3, 0, 0, 0, 1, 7);
        // A number that can't be, in a whole three, comes ahead of it.
        judged(x, 0, 7, 0, 0, 1);
        x.deed(1, 0);
        judged(x, -9, 2, 0, 9, 2, 2, 9, 1, 2, 1);
        judged(new ItWasLikeThat(), 0, 0, 0, 0);
    }

    private static void seeds(ItWasLikeThat x, int n, int z, int alone, int together) {
        Due.due("seeds(" + n + ", " + z + ", 0)", x.seeds(n, z, 0), alone);
        Due.due("seeds(" + n + ", " + z + ", 1)", x.seeds(n, z, 1), together);
    }

    /** From 1 the draws are 16838, 5758, 10113, 17515, 31051, 5627, 23010, 7419, 16212, 4086. */
    private static void seedsWithoutDoors() {
        ItWasLikeThat x = Due.told("r22;c000;");
        // Each second of them says the ROOM: 0, 1, 1, 0, 0.
        seeds(x, 1, 1, 1, 1);
        seeds(x, 2, 1, 1, 1);
        seeds(x, 5, 1, 3, 3);
        x.deed(1, 1);
        seeds(x, 5, 1, 2, 2);
        seeds(x, 1, -1, 1, 1);
        seeds(x, 1, 0, 0, 0);
        // FACTS do not bind them.
        x.fact(0, 0, 0, 1);
        seeds(x, 5, 1, 2, 2);
    }

    private static void seedsWithDoors() {
        ItWasLikeThat x = Due.told("r32;d01;d02;c000;");
        // ROOM 2, stays; 0, goes to 1; 1, goes to 0.
        int[][] want = {{1, 1}, {1, 1}, {1, 1}};
        for (int room = 0; room < 3; room++) {
            for (int m = 0; m < 2; m++) {
                x.deed(room, m);
                seeds(x, 3, 1, want[room][m], want[room][m]);
            }
        }
        x.deed(1, 1);
        seeds(x, 1, 1, 0, 0);
        seeds(x, 2, 1, 1, 1);
        x.deed(2, 1);
        seeds(x, 1, 1, 1, 1);
    }

    private static void seedsOfMany() {
        ItWasLikeThat x = Due.told("r22;c000;c000;");
        // ROOMS 0 and 1, 1 and 0, 0 and the next (15089 by 2: 1).
        seeds(x, 1, 1, 1, 1);
        seeds(x, 2, 1, 2, 2);
        x = Due.told("r22;c000;c000;c000;");
        // ROOMS 0, 1 and 1: in ROOM 1 there are two.
        seeds(x, 1, 1, 1, 1);
        x.deed(1, 0);
        seeds(x, 1, 1, 0, 2);
        seeds(new ItWasLikeThat(), 20, 1, 0, 0);
    }

    private static void seedsRefused() {
        ItWasLikeThat x = Due.told("c000;");
        Due.refused(x, "seeds(0, 1, 2)", x.seeds(0, 1, 2), -4, 0);
        Due.refused(x, "seeds(-1, 1, 2)", x.seeds(-1, 1, 2), -4, 1);
        Due.refused(x, "seeds(21, 1, 2)", x.seeds(21, 1, 2), -6, 0);
        Due.refused(x, "seeds(20, 1, 2)", x.seeds(20, 1, 2), -2, 0);
        Due.refused(x, "seeds(20, 1, -1)", x.seeds(20, 1, -1), -2, 1);
    }
}
