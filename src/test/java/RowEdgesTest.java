/** Promises 32 to 34: the ROW, JUDGED, SEEDS and DRAWS at their edges. */
public final class RowEdgesTest {
    public static void main(String[] args) {
        numbersOfTheRow();
        twelveNumbers();
        emptyRow();
        unwholeThrees();
        noSuchChild();
        notWhatItSays();
        nothingSaid();
        rowHasNoneThen();
        seedsAtTheirEnds();
        drawsWrap();
        drawsWithoutTheSignsBit();
        drawsStepByStep();
        nextTo();
        justOne();
        seedsOfNobody();
        Due.end();
    }

    private static void numbersOfTheRow() {
        Due.about("row: A number more of the ROW: how many. -4; -6 (9; 12, too).");
        ItWasLikeThat x = new ItWasLikeThat();
        Due.due("row(-1)", x.row(-1), -4);
        Due.due("row(10)", x.row(10), -6);
        Due.due("count(8)", x.count(8), 0);
        for (int v = 0; v <= 9; v++) {
            Due.due("row(" + v + ")", x.row(v), v + 1);
        }
        Due.due("count(8)", x.count(8), 10);
    }

    private static void twelveNumbers() {
        Due.about("A ROW of numbers (0 .. 9; 12 at most)");
        ItWasLikeThat x = Due.told("b10;c000;");
        for (int i = 1; i <= 12; i++) {
            Due.due("row(0), the " + i + "th", x.row(0), i);
        }
        Due.due("row(0), the 13th", x.row(0), -6);
        Due.due("row(9), the 13th", x.row(9), -6);
        Due.due("row(-1), the 13th", x.row(-1), -4);
        Due.due("count(8)", x.count(8), 12);
        Due.due("judge() of twelve", x.judge(), -9);
        Due.due("count(8)", x.count(8), 0);
        Due.due("row(0), the first anew", x.row(0), 1);
        Due.due("judge() of one", x.judge(), 0);
        // The last of twelve is looked at.
        Due.row(x, 0, 0, 0, 0, 0, 0, 0, 0, 0, 0, 0, 1);
        Due.due("judge() of twelve, the last wrong", x.judge(), 11);
    }

    private static void judged(ItWasLikeThat x, int want, int... numbers) {
        StringBuilder call = new StringBuilder("judge() of");
        for (int number : numbers) {
            x.row(number);
            call.append(' ').append(number);
        }
        Due.due(call.toString(), x.judge(), want);
        Due.due("count(8) behind it", x.count(8), 0);
    }

    private static void emptyRow() {
        Due.about("judge: JUDGED; -9");
        judged(new ItWasLikeThat(), -9);
        judged(Due.told("c000;"), -9);
    }

    private static void unwholeThrees() {
        Due.about("where an unwhole three begins");
        ItWasLikeThat x = Due.told("b10;c000;");
        judged(x, 0, 0);
        judged(x, 0, 0, 0);
        judged(x, -9, 0, 0, 0);
        judged(x, 3, 0, 0, 0, 0);
        judged(x, 3, 0, 0, 0, 0, 0);
        judged(x, -9, 0, 0, 0, 0, 0, 0);
        judged(x, 6, 0, 0, 0, 0, 0, 0, 0);
        judged(x, 9, 0, 0, 0, 0, 0, 0, 0, 0, 0, 0);
        judged(x, 9, 0, 0, 0, 0, 0, 0, 0, 0, 0, 0, 0);
        // A number that can't be, ahead of it, comes first.
        judged(x, 2, 0, 0, 1, 0);
        judged(x, 8, 0, 0, 0, 0, 0, 0, 0, 0, 1, 0, 0);
        judged(new ItWasLikeThat(), 0, 0);
    }

    private static void noSuchChild() {
        Due.about("the place of the first number that can't be (no such CHILD)");
        judged(new ItWasLikeThat(), 0, 0, 0, 9);
        for (int children = 1; children <= 4; children++) {
            ItWasLikeThat x = Due.told("b10;" + "c100;".repeat(children));
            int last = children - 1;
            judged(x, -9, last, last, 0);
            judged(x, 0, children, last, 0);
            judged(x, 1, last, children, 0);
            judged(x, 0, children, children, 9);
            judged(x, 0, 9, 0, 0);
            judged(x, 4, 0, 0, 0, last, 9, 0);
        }
    }

    private static void notWhatItSays() {
        Due.about("what it said of the MINUTE of the DEED: the first number that is not what it SAYS");
        // 0 was THERE and lies of itself: ROOM 0 is behind the last one.
        ItWasLikeThat x = Due.told("r46;b35;c000;c100;t0333333;t1222222;");
        for (int v = 0; v <= 9; v++) {
            judged(x, v == 0 ? -9 : 2, 0, 0, v);
            judged(x, v == 2 ? -9 : 2, 0, 1, v);
            judged(x, v == 3 ? -9 : 2, 1, 0, v);
        }
        x.deed(3, 0);
        judged(x, -9, 0, 0, 0, 1, 0, 3);
        x.deed(0, 0);
        judged(x, 2, 0, 0, 0, 1, 0, 3);
        judged(x, -9, 0, 0, 3, 1, 0, 3);
    }

    private static void nothingSaid() {
        Due.about("a ROOM, 9 nothing");
        ItWasLikeThat x = Due.told("c500;c100;");
        for (int v = 0; v <= 9; v++) {
            judged(x, v == 9 ? -9 : 2, 0, 0, v);
            judged(x, v == 9 ? -9 : 2, 0, 1, v);
            judged(x, v == 0 ? -9 : 2, 1, 0, v);
        }
    }

    private static void rowHasNoneThen() {
        Due.about("whichever it answers, the ROW has none then");
        ItWasLikeThat x = Due.told("b10;c000;");
        int[][] rows = {{}, {0}, {7}, {0, 0, 0}, {0, 0, 1}, {0, 7, 0}};
        for (int[] numbers : rows) {
            Due.row(x, numbers);
            x.judge();
            Due.due("count(8)", x.count(8), 0);
            Due.due("judge() at once again", x.judge(), -9);
        }
        Due.nothingRefused(x);
    }

    private static void isSeeded(ItWasLikeThat x, int n, int z, int alone, int together) {
        Due.due("seeds(" + n + ", " + z + ", 0)", x.seeds(n, z, 0), alone);
        Due.due("seeds(" + n + ", " + z + ", 1)", x.seeds(n, z, 1), together);
    }

    private static void seedsAtTheirEnds() {
        Due.about("n times (1 .. 20)");
        // By z 0 the first DRAW is 0, by z 1 it is 16838, 2 below 4.
        ItWasLikeThat x = Due.told("r42;c000;");
        isSeeded(x, 1, 0, 1, 1);
        isSeeded(x, 1, 1, 0, 0);
        x.deed(2, 0);
        isSeeded(x, 1, 0, 0, 0);
        isSeeded(x, 1, 1, 1, 1);
        Due.due("seeds(0, 1, 0)", x.seeds(0, 1, 0), -4);
        Due.due("seeds(21, 1, 0)", x.seeds(21, 1, 0), -6);
        Due.due("seeds(20, 1, 2)", x.seeds(20, 1, 2), -2);
        Due.due("seeds(0, 1, 2)", x.seeds(0, 1, 2), -4);
    }

    private static final int[][] ENDS = {{0, 0}, {0, 5}, {1, 0}, {1, 5}, {2, 0}, {2, 5}, {3, 0}, {3, 5}};

    /** Four in a row of four ROOMS, in the first MINUTE and the last of six, twenty times. */
    private static void isSeededInAll(int z, int[] alone, int[] together) {
        ItWasLikeThat x = Due.told("r46;d01;d12;d23;c000;c000;c000;c000;");
        for (int i = 0; i < ENDS.length; i++) {
            x.deed(ENDS[i][0], ENDS[i][1]);
            isSeeded(x, 20, z, alone[i], together[i]);
        }
    }

    private static void drawsWrap() {
        Due.about("DRAWS: z becomes z times 1103515245 plus 12345 (an int, wrapping)");
        isSeededInAll(0, new int[] {8, 7, 9, 4, 6, 10, 14, 6}, new int[] {27, 16, 17, 24, 20, 32, 16, 8});
        isSeededInAll(1, new int[] {13, 3, 12, 8, 12, 6, 13, 5}, new int[] {17, 9, 16, 23, 23, 31, 24, 17});
        isSeededInAll(1103515245, new int[] {12, 5, 8, 8, 9, 5, 6, 9}, new int[] {22, 12, 18, 21, 19, 28, 21, 19});
    }

    /** The sign's bit of a seed makes nothing other. */
    private static void drawsWithoutTheSignsBit() {
        Due.about("DRAWS: z without its sign's bit, over 65536, cut");
        int[] alone = {14, 9, 13, 9, 9, 10, 11, 7};
        int[] together = {18, 14, 23, 24, 17, 21, 22, 21};
        isSeededInAll(-1, alone, together);
        isSeededInAll(Integer.MAX_VALUE, alone, together);
        isSeededInAll(Integer.MIN_VALUE, new int[] {8, 7, 9, 4, 6, 10, 14, 6}, new int[] {27, 16, 17, 24, 20, 32, 16, 8});
    }

    /** The room each one DRAW says, of seeds whose first z is near a turn. */
    private static void drawsStepByStep() {
        Due.about("a DRAW below n is (z without its sign's bit, over 65536, cut) modulo n");
        // Seed, its first DRAW: of 0 (12345) 0; of 1 16838; of -1 (below 0) 15929; of the least 0.
        int[] seeds = {0, 1, -1, Integer.MAX_VALUE, Integer.MIN_VALUE};
        int[] draws = {0, 16838, 15929, 15929, 0};
        for (int rooms = 2; rooms <= 4; rooms++) {
            ItWasLikeThat x = Due.told("r" + rooms + "2;c000;");
            for (int i = 0; i < seeds.length; i++) {
                for (int room = 0; room < rooms; room++) {
                    x.deed(room, 0);
                    int is = draws[i] % rooms == room ? 1 : 0;
                    isSeeded(x, 1, seeds[i], is, is);
                }
            }
        }
    }

    private static void nextTo() {
        Due.about("a DRAW below how many ROOMS are next to it, and 1 (0: it stays; else the so manyth of these)");
        // From ROOM 2 (16838 below 4) the next DRAW is 5758: below 1 and 2 that is 0, below 3 it is 1, below 4 it is 2.
        String[] doors = {"", "d01;", "d20;", "d23;", "d20;d21;", "d12;d23;", "d21;d23;d01;", "d20;d21;d23;"};
        int[] then = {2, 2, 2, 2, 0, 1, 1, 1};
        for (int i = 0; i < doors.length; i++) {
            ItWasLikeThat x = Due.told("r42;c000;" + doors[i]);
            for (int room = 0; room < 4; room++) {
                x.deed(room, 1);
                int is = room == then[i] ? 1 : 0;
                isSeeded(x, 1, 1, is, is);
            }
        }
    }

    private static void justOne() {
        Due.about("in how many of these the DEED's ROOM has just one in its MINUTE; how many were there, together");
        // In two ROOMS without DOORS they are, by z 1, in ROOMS 0, 1, 1, 0.
        int[][] alone = {{1, 1, 1, 0}, {0, 1, 0, 0}};
        int[][] together = {{1, 1, 1, 2}, {0, 1, 2, 2}};
        for (int children = 1; children <= 4; children++) {
            ItWasLikeThat x = Due.told("r22;" + "c000;".repeat(children));
            for (int room = 0; room < 2; room++) {
                x.deed(room, 0);
                isSeeded(x, 1, 1, alone[room][children - 1], together[room][children - 1]);
            }
        }
    }

    private static void seedsOfNobody() {
        Due.about("SEEDS: each CHILD by numbers goes");
        isSeeded(new ItWasLikeThat(), 1, 1, 0, 0);
        isSeeded(new ItWasLikeThat(), 20, Integer.MIN_VALUE, 0, 0);
        ItWasLikeThat x = Due.told("r22;c000;");
        x.fact(0, 0, 1, 1);
        // FACTS are not looked at, and where it TRULY was neither.
        isSeeded(x, 1, 1, 1, 1);
        Due.due("was(0, 0)", x.was(0, 0), 0);
    }
}
