/** Promises 35 to 37: what THE IMAGE holds and what not, one by one; count. */
public final class ImageEdgesTest {
    public static void main(String[] args) {
        noneAtFirst();
        ofANewObject();
        holdsRoomsAndMinutes();
        holdsDoors();
        holdsChildren();
        holdsWhereTheyTrulyWere();
        holdsTheDeed();
        holdsFacts();
        holdsSayings();
        holdsChances();
        holdsNotItself();
        holdsNoLetters();
        holdsNoRow();
        holdsNoRefusals();
        theLastOneTaken();
        minutesOfLetters();
        howManyFacts();
        countsOfANewObject();
        countsOfAFullOne();
        anotherWhat();
        Due.end();
    }

    private static void noneAtFirst() {
        Due.about("restore: -3 there is none.");
        ItWasLikeThat x = Due.told("r46;c000;");
        Due.refused(x, "restore()", x.restore(), -3, 0);
        Due.refused(x, "restore()", x.restore(), -3, 1);
        Due.counts(x, 4, 6, 1);
        Due.due("image()", x.image(), 0);
        Due.due("restore()", x.restore(), 0);
        Due.due("count(13)", x.count(13), 2);
    }

    private static void ofANewObject() {
        Due.about("THE IMAGE: all that there is (of a new object)");
        ItWasLikeThat x = new ItWasLikeThat();
        Due.due("image()", x.image(), 0);
        Due.tell(x, "r46;d01;d23;c000;c000;b35;f000+;");
        x.says(0, 0, 0, 0);
        for (int culprit = 4; culprit <= 6; culprit++) {
            x.chance(culprit, 99);
        }
        Due.due("restore()", x.restore(), 0);
        Due.counts(x, 3, 4, 0, 0, 0, 0, 0, 0, 0, 0);
        Due.due("door(0, 1)", x.door(0, 1), 0);
        Due.due("chance(4, 0)", x.chance(4, 0), 2);
        Due.due("chance(5, 0)", x.chance(5, 0), 1);
        Due.due("chance(6, 0)", x.chance(6, 0), 1);
        Due.due("first()", x.first(), -9);
    }

    private static void holdsRoomsAndMinutes() {
        Due.about("THE IMAGE: all that there is (ROOMS, MINUTES)");
        ItWasLikeThat x = Due.told("r46;");
        x.image();
        Due.tell(x, "r22;");
        Due.due("restore()", x.restore(), 0);
        Due.due("deed(3, 5)", x.deed(3, 5), 0);
        Due.due("deed(4, 5)", x.deed(4, 5), -1);
        Due.due("deed(3, 6)", x.deed(3, 6), -1);
        x = Due.told("r22;");
        x.image();
        Due.tell(x, "r46;");
        Due.due("restore()", x.restore(), 0);
        Due.due("deed(1, 1)", x.deed(1, 1), 0);
        Due.due("deed(2, 1)", x.deed(2, 1), -1);
        Due.due("deed(1, 2)", x.deed(1, 2), -1);
    }

    private static void holdsDoors() {
        Due.about("THE IMAGE: all that there is (DOORS)");
        ItWasLikeThat x = Due.told("r42;d01;d23;d13;");
        x.image();
        Due.tell(x, "d01;d02;d03;d12;d23;");
        Due.due("restore()", x.restore(), 0);
        int[][] doors = {{0, 1, 0, 0}, {1, 0, 0, 1}, {0, 0, 0, 1}, {0, 1, 1, 0}};
        for (int one = 0; one < 4; one++) {
            for (int other = 0; other < 4; other++) {
                if (one != other) {
                    Due.due("door(" + one + ", " + other + ")", x.door(one, other), doors[one][other]);
                }
            }
        }
        Due.due("count(3)", x.count(3), 3);
    }

    private static void holdsChildren() {
        Due.about("THE IMAGE: all that there is (CHILDREN: KIND, FIGURE, TIE, SKILL)");
        ItWasLikeThat x = Due.told("c393;c182;c471;");
        x.image();
        Due.tell(x, "r34;c000;c000;c000;c000;");
        Due.due("restore()", x.restore(), 0);
        int[][] want = {{3, 9, 3, 0, 3, 5}, {1, 8, 2, 0, 6, 6}, {4, 7, 1, 0, 8, 3}};
        for (int child = 0; child < 3; child++) {
            for (int what = 0; what < 6; what++) {
                Due.due("child(" + child + ", " + what + ")", x.child(child, what), want[child][what]);
            }
        }
        Due.due("child(3, 0)", x.child(3, 0), -1);
        Due.tell(x, "c560;");
        Due.due("child(3, 0)", x.child(3, 0), 5);
        Due.due("restore()", x.restore(), 0);
        Due.due("count(2)", x.count(2), 3);
    }

    private static void holdsWhereTheyTrulyWere() {
        Due.about("THE IMAGE: all that there is (where each TRULY was)");
        ItWasLikeThat x = Due.told("r26;d01;c000;c000;c000;c000;t0010101;t3110011;");
        x.image();
        Due.tell(x, "t0111111;t1111111;t3000000;");
        Due.due("restore()", x.restore(), 0);
        int[] first = {0, 1, 0, 1, 0, 1};
        int[] last = {1, 1, 0, 0, 1, 1};
        for (int minute = 0; minute < 6; minute++) {
            Due.due("was(0, " + minute + ")", x.was(0, minute), first[minute]);
            Due.due("was(1, " + minute + ")", x.was(1, minute), 0);
            Due.due("was(3, " + minute + ")", x.was(3, minute), last[minute]);
        }
    }

    private static void holdsTheDeed() {
        Due.about("THE IMAGE: all that there is (the DEED)");
        ItWasLikeThat x = Due.told("b23;");
        x.image();
        x.deed(1, 0);
        x.restore();
        Due.due("count(6)", x.count(6), 23);
        Due.tell(x, "b11;");
        x.restore();
        Due.due("deed(0, 0)", x.deed(0, 0), 23);
    }

    private static void holdsFacts() {
        Due.about("THE IMAGE: all that there is (FACTS)");
        ItWasLikeThat x = Due.told("r22;d01;c000;c000;c000;c000;");
        x.fact(0, 0, 0, 1);
        x.fact(3, 1, 0, 0);
        Due.due("image()", x.image(), 2);
        // Others in their place, and more of them.
        x.unfact();
        x.unfact();
        for (int i = 0; i < 16; i++) {
            x.fact(1, i % 2, 1, 1);
        }
        Due.due("count(4)", x.count(4), 16);
        Due.due("restore()", x.restore(), 2);
        Due.due("count(4)", x.count(4), 2);
        int[] ways = {2, 4, 4, 2};
        for (int child = 0; child < 4; child++) {
            Due.due("ways(" + child + ", 0)", x.ways(child, 0), ways[child]);
        }
        Due.due("unfact()", x.unfact(), 1);
        Due.due("ways(3, 0)", x.ways(3, 0), 4);
        Due.due("unfact()", x.unfact(), 0);
        Due.due("ways(0, 0)", x.ways(0, 0), 4);
        Due.due("restore()", x.restore(), 2);
        Due.due("ways(3, 0)", x.ways(3, 0), 2);
    }

    private static void holdsSayings() {
        Due.about("THE IMAGE: all that there is (SAYINGS)");
        ItWasLikeThat x = Due.told("r22;d01;c000;c000;");
        x.says(1, 0, 0, 0);
        x.says(0, 0, 0, 1);
        x.image();
        x.hush();
        for (int i = 0; i < 8; i++) {
            x.says(0, 1, 1, 1);
        }
        x.restore();
        Due.due("count(5)", x.count(5), 2);
        Due.due("together(3)", x.together(3), 0);
        Due.due("together(4)", x.together(4), -1);
        x.fact(0, 0, 0, 1);
        Due.due("holds(0)", x.holds(0), 2);
        Due.due("holds(1)", x.holds(1), 0);
        Due.due("LIARS", x.most(2), 1);
        // A HOUSE makes SAYINGS none; THE IMAGE has them still.
        Due.tell(x, "b00;");
        Due.due("count(5)", x.count(5), 0);
        x.restore();
        Due.due("hush()", x.hush(), 2);
        Due.due("restore()", x.restore(), 0);
        Due.due("says, the third", x.says(0, 0, 0, 0), 2);
    }

    private static void holdsChances() {
        Due.about("THE IMAGE: all that there is (CHANCES)");
        ItWasLikeThat x = new ItWasLikeThat();
        int[] chances = {99, 0, 50};
        for (int i = 0; i < 3; i++) {
            x.chance(4 + i, chances[i]);
        }
        x.image();
        for (int i = 0; i < 3; i++) {
            x.chance(4 + i, 7);
        }
        x.restore();
        for (int i = 0; i < 3; i++) {
            Due.due("chance(" + (4 + i) + ", 1)", x.chance(4 + i, 1), chances[i]);
        }
        Due.about("\"r\": all DOORS, CHILDREN, FACTS are none then, the DEED 0, 0 (of CHANCES it tells nothing)");
        x.restore();
        Due.tells(x, "r22;", 1);
        for (int i = 0; i < 3; i++) {
            Due.due("chance(" + (4 + i) + ", 1)", x.chance(4 + i, 1), chances[i]);
        }
    }

    private static void holdsNotItself() {
        Due.about("THE IMAGE: all that there is, but it");
        ItWasLikeThat x = Due.told("b11;");
        x.image();
        for (int times = 0; times < 3; times++) {
            x.deed(2, 2);
            Due.due("restore()", x.restore(), 0);
            Due.due("count(6)", x.count(6), 11);
        }
        Due.tells(x, "r22;b10;", 2);
        Due.due("restore() behind r", x.restore(), 0);
        Due.due("count(6)", x.count(6), 11);
        Due.due("count(0)", x.count(0), 3);
    }

    private static void holdsNoLetters() {
        Due.about("THE IMAGE: all that there is, but letters");
        ItWasLikeThat x = new ItWasLikeThat();
        x.feed('b');
        x.image();
        x.feed('2');
        x.feed('3');
        x.restore();
        Due.due("count(7)", x.count(7), 3);
        Due.due("feed(';')", x.feed(';'), 4);
        Due.due("house()", x.house(), 1);
        Due.due("count(6)", x.count(6), 23);
        x.restore();
        Due.due("count(7)", x.count(7), 0);
        Due.due("house()", x.house(), -1000);
        Due.due("count(6)", x.count(6), 0);
        for (int i = 0; i < 96; i++) {
            x.feed(';');
        }
        x.restore();
        Due.due("feed, the 97th", x.feed(';'), -6);
    }

    private static void holdsNoRow() {
        Due.about("THE IMAGE: all that there is, but the ROW");
        ItWasLikeThat x = Due.told("b10;c000;");
        Due.row(x, 0, 0);
        x.image();
        Due.row(x, 1);
        x.restore();
        Due.due("count(8)", x.count(8), 3);
        Due.due("judge()", x.judge(), 2);
        x.restore();
        Due.due("count(8)", x.count(8), 0);
        Due.due("judge()", x.judge(), -9);
    }

    private static void holdsNoRefusals() {
        Due.about("THE IMAGE: all that there is, but REFUSALS");
        ItWasLikeThat x = new ItWasLikeThat();
        x.restore();
        x.image();
        x.was(0, 0);
        x.can(2);
        x.unfact();
        x.punish(-1);
        x.punish(11);
        x.restore();
        int[] want = {1, 1, 2, 1, 0, 1};
        for (int i = 0; i < 6; i++) {
            Due.due("count(" + (11 + i) + ")", x.count(11 + i), want[i]);
        }
    }

    private static void theLastOneTaken() {
        Due.about("image: THE IMAGE is taken");
        ItWasLikeThat x = Due.told("r46;b35;");
        x.image();
        x.deed(1, 1);
        x.image();
        x.deed(2, 2);
        x.restore();
        Due.due("count(6)", x.count(6), 11);
        // What comes behind a restore does not come into it.
        x.deed(2, 2);
        Due.tell(x, "d01;c000;");
        x.chance(4, 50);
        x.restore();
        Due.due("count(6)", x.count(6), 11);
        Due.due("count(3)", x.count(3), 0);
        Due.due("count(2)", x.count(2), 0);
        Due.due("chance(4, 50)", x.chance(4, 50), 2);
    }

    /** How many digits "t" has goes by the MINUTES that are there again. */
    private static void minutesOfLetters() {
        Due.about("\"t\" has as many digits as there are MINUTES then, and 1 (RESTORED)");
        ItWasLikeThat x = Due.told("r22;c000;");
        x.image();
        Due.tell(x, "r26;c000;");
        for (char letter : "t011;".toCharArray()) {
            x.feed(letter);
        }
        x.restore();
        Due.due("house()", x.house(), 1);
        Due.due("was(0, 1)", x.was(0, 1), 1);
    }

    private static void howManyFacts() {
        Due.about("how many FACTS");
        ItWasLikeThat x = Due.told("c000;");
        for (int facts = 0; facts <= 16; facts++) {
            Due.due("image()", x.image(), facts);
            Due.due("restore()", x.restore(), facts);
            x.fact(0, 0, 0, 0);
        }
        Due.due("count(16)", x.count(16), 1);
        for (int i = 0; i < 16; i++) {
            x.unfact();
        }
        Due.due("unfact()", x.unfact(), -3);
        Due.due("restore()", x.restore(), 16);
        Due.due("fact, the 17th", x.fact(0, 0, 0, 0), -6);
    }

    private static void countsOfANewObject() {
        Due.about("ItWasLikeThat(): Three ROOMS, four MINUTES, nobody.");
        Due.counts(new ItWasLikeThat(), 3, 4, 0, 0, 0, 0, 0, 0, 0, 0, -9, 0, 0, 0, 0, 0, 0, -9);
    }

    private static void countsOfAFullOne() {
        Due.about("count: 0 ROOMS .. 11 .. 16 REFUSALS -1 .. -6 (all that there can be)");
        ItWasLikeThat x = Due.told("r46;d01;d02;d03;d12;d13;d23;c000;c000;c000;c000;b35;" + "f001-;".repeat(6));
        for (int i = 0; i < 10; i++) {
            x.fact(3, 5, 3, 1);
        }
        for (int i = 0; i < 8; i++) {
            x.says(3, 3, 5, 3);
        }
        for (int i = 0; i < 96; i++) {
            x.feed(255);
        }
        for (int i = 0; i < 12; i++) {
            x.row(9);
        }
        Due.counts(x, 4, 6, 4, 6, 16, 8, 35, 96, 12, 0, -9, 0, 0, 0, 0, 0, 0, -9);
        // One more of each is refused or a FAULT, and there are no more than before.
        x.fact(3, 5, 3, 1);
        x.says(3, 3, 5, 3);
        x.feed(255);
        x.row(9);
        Due.counts(x, 4, 6, 4, 6, 16, 8, 35, 96, 12, 0, -9, 0, 0, 0, 0, 0, 4, -9);
        Due.due("house()", x.house(), -1000);
        Due.tells(x, "c000;", -2000);
        Due.tells(x, "f000+;", -2000);
        Due.counts(x, 4, 6, 4, 6, 16, 8, 35, 0, 12, 0, -9, 0, 0, 0, 0, 0, 4, -9);
    }

    private static void anotherWhat() {
        Due.about("count: -9 for another what.");
        ItWasLikeThat x = new ItWasLikeThat();
        for (int what : new int[] {-1, 10, 17, 18, -9, -11, Integer.MAX_VALUE, Integer.MIN_VALUE}) {
            Due.due("count(" + what + ")", x.count(what), -9);
        }
        Due.nothingRefused(x);
    }
}
