/** Promises 10, 12, 14, 15, 29, 30: CHANCES, CAN, WHO, LIKELIEST, PUNISH at their edges. */
public final class WhoEdgesTest {
    private static final long LONGS = 4000000000000000000L;

    public static void main(String[] args) {
        chances();
        culprits();
        nobodyAtAll();
        allAreNought();
        surelyOne();
        leastTerms();
        canAndSurely();
        likeliest();
        justSoManyTenths();
        punishedOrNot();
        noneOfThese();
        Due.end();
    }

    private static void whoIs(ItWasLikeThat x, int culprit, long above, long below) {
        Due.due("who(" + culprit + ", 0)", x.who(culprit, 0), above);
        Due.due("who(" + culprit + ", 1)", x.who(culprit, 1), below);
    }

    private static void isMissed(ItWasLikeThat x, int s, long above, long below) {
        Due.due("missed(" + s + ", 0)", x.missed(s, 0), above);
        Due.due("missed(" + s + ", 1)", x.missed(s, 1), below);
    }

    private static ItWasLikeThat withChances(String text, int cat, int wind, int crack) {
        ItWasLikeThat x = Due.told(text);
        x.chance(4, cat);
        x.chance(5, wind);
        x.chance(6, crack);
        return x;
    }

    private static void chances() {
        Due.about("CHANCES (0 .. 99 tenths each: 2, 1, 1 at first); -1; -4; -6 99");
        int[] atFirst = {2, 1, 1};
        for (int culprit = 4; culprit <= 6; culprit++) {
            ItWasLikeThat x = new ItWasLikeThat();
            Due.due("chance(.., -1)", x.chance(culprit, -1), -4);
            Due.due("chance(.., 100)", x.chance(culprit, 100), -6);
            Due.due("chance(.., 99)", x.chance(culprit, 99), atFirst[culprit - 4]);
            Due.due("chance(.., 100)", x.chance(culprit, 100), -6);
            Due.due("chance(.., 0)", x.chance(culprit, 0), 99);
            Due.due("chance(.., -1)", x.chance(culprit, -1), -4);
            whoIs(x, culprit, 0, 1);
            Due.due("chance(.., 97)", x.chance(culprit, 97), 0);
            whoIs(x, culprit, 97, 97 + 4 - atFirst[culprit - 4]);
        }
        ItWasLikeThat x = withChances("", 99, 99, 99);
        whoIs(x, 4, 1, 3);
        whoIs(x, 5, 1, 3);
        whoIs(x, 6, 1, 3);
    }

    private static void culprits() {
        Due.about("culprit 0 .. 3 a CHILD, 4 the cat, 5 the wind, 6 the crack; -1 no such culprit");
        ItWasLikeThat x = new ItWasLikeThat();
        for (int children = 0; children <= 4; children++) {
            for (int culprit = -1; culprit <= 7; culprit++) {
                boolean is = culprit >= 0 && culprit < children || culprit >= 4 && culprit <= 6;
                Due.due("who(" + culprit + ", 0) of " + children, x.who(culprit, 0) < LONGS ? 1 : 0, is ? 1 : 0);
                Due.due("who(" + culprit + ", 2) of " + children, x.who(culprit, 2), LONGS + (is ? 2 : 1));
                Due.due("chance(" + culprit + ", -1)", x.chance(culprit, -1), culprit >= 4 && culprit <= 6 ? -4 : -1);
            }
            Due.tell(x, "c000;");
        }
    }

    private static void nobodyAtAll() {
        Due.about("WHO: it was one alone: the cat, the wind, an old crack by their CHANCES");
        ItWasLikeThat x = new ItWasLikeThat();
        whoIs(x, 4, 1, 2);
        whoIs(x, 5, 1, 4);
        whoIs(x, 6, 1, 4);
        Due.due("can(0)", x.can(0), 0);
        Due.due("can(1)", x.can(1), 0);
        Due.due("likeliest()", x.likeliest(), 4);
        Due.due("punish(0)", x.punish(0), 0);
        Due.due("punish(10)", x.punish(10), 0);
        isMissed(x, 0, 1, 1);
        isMissed(x, 10, 1, 1);
    }

    private static void allAreNought() {
        Due.about("-9 (all are 0); 0 by 1: nobody can be");
        ItWasLikeThat[] all = {
            withChances("", 0, 0, 0),
            withChances("c000;c400;f000-;f100-;", 0, 0, 0)
        };
        for (ItWasLikeThat x : all) {
            for (int culprit = 4; culprit <= 6; culprit++) {
                whoIs(x, culprit, 0, 1);
            }
            for (int child = 0; child < x.count(2); child++) {
                whoIs(x, child, 0, 1);
            }
            Due.due("likeliest()", x.likeliest(), -9);
            for (int s = 0; s <= 10; s++) {
                Due.due("punish(" + s + ")", x.punish(s), s == 0 ? (1 << x.count(2)) - 1 : 0);
                isMissed(x, s, 0, 1);
            }
        }
        // As soon as one can be, it is it.
        all[0].chance(6, 1);
        Due.due("likeliest() by a tenth", all[0].likeliest(), 6);
        isMissed(all[0], 0, 1, 1);
        all[1].unfact();
        Due.due("likeliest() by a CHILD", all[1].likeliest(), 1);
        isMissed(all[1], 10, 0, 1);
        isMissed(all[1], 0, 0, 1);
    }

    private static void surelyOne() {
        Due.about("how likely each is of all together");
        ItWasLikeThat x = withChances("c200;f000+;", 0, 0, 0);
        whoIs(x, 0, 1, 1);
        whoIs(x, 4, 0, 1);
        Due.due("punish(10)", x.punish(10), 1);
        isMissed(x, 10, 0, 1);
        x.chance(5, 1);
        Due.due("punish(10) with the wind", x.punish(10), 0);
        isMissed(x, 10, 1, 1);
        Due.due("punish(7) with the wind", x.punish(7), 1);
        isMissed(x, 7, 1, 4);
        Due.due("punish(8) with the wind", x.punish(8), 0);
    }

    private static void leastTerms() {
        Due.about("Fractions are told in least terms.");
        ItWasLikeThat x = withChances("", 99, 33, 66);
        whoIs(x, 4, 1, 2);
        whoIs(x, 5, 1, 6);
        whoIs(x, 6, 1, 3);
        x = withChances("", 97, 89, 0);
        whoIs(x, 4, 97, 186);
        whoIs(x, 5, 89, 186);
        whoIs(x, 6, 0, 1);
        x = withChances("r46;d01;d02;d03;d12;d13;d23;c400;c400;c400;c400;", 0, 0, 0);
        whoIs(x, 3, 1, 4);
        isMissed(x, 2, 0, 1);
        isMissed(x, 3, 1, 1);
    }

    private static void canAndSurely() {
        Due.about("CAN: CHILDREN (bits) with some THERE; SURELY: those with no other");
        ItWasLikeThat x = Due.told("r22;c000;c000;c000;c000;b11;");
        Due.due("can(0)", x.can(0), 15);
        Due.due("can(1)", x.can(1), 0);
        x.fact(3, 0, 0, 0);
        Due.due("can(1) of the last", x.can(1), 8);
        x.fact(0, 1, 1, 1);
        Due.due("can(1) of the first, too", x.can(1), 9);
        x.fact(1, 0, 1, 0);
        Due.due("can(0) but for one", x.can(0), 13);
        x.fact(2, 1, 1, 0);
        Due.due("can(0) but for two", x.can(0), 9);
        x.deed(0, 0);
        Due.due("can(0) in the other ROOM", x.can(0), 6);
        Due.due("can(1) in the other ROOM", x.can(1), 6);
    }

    private static void likeliest() {
        Due.about("LIKELIEST: of several the least number; -9 (all are 0)");
        Due.due("all alike", withChances("r22;d01;c000;c000;c000;c000;", 0, 0, 0).likeliest(), 0);
        Due.due("the last CHILD", withChances("r22;d01;c000;c000;c000;c400;", 3, 3, 3).likeliest(), 3);
        Due.due("the last CHILD as the cat", withChances("r22;d01;c000;c000;c000;c400;", 4, 4, 4).likeliest(), 3);
        Due.due("the cat by a tenth", withChances("r22;d01;c000;c000;c000;c400;", 5, 5, 5).likeliest(), 4);
        Due.due("the cat, the wind, the crack alike", withChances("", 99, 99, 99).likeliest(), 4);
        Due.due("the wind and the crack alike", withChances("", 98, 99, 99).likeliest(), 5);
        Due.due("the crack", withChances("", 98, 98, 99).likeliest(), 6);
    }

    private static void justSoManyTenths() {
        Due.about("PUNISH all whose WHO is s tenths or more");
        // One is surely THERE, and the crack makes it just s tenths of all.
        tenths("c000;", 45, 1, 9, 10);
        tenths("c000;", 20, 2, 4, 5);
        tenths("c100;", 14, 3, 7, 10);
        tenths("c400;", 12, 4, 3, 5);
        tenths("c000;", 5, 5, 1, 2);
        tenths("c100;", 4, 6, 2, 5);
        tenths("c400;", 2, 8, 1, 5);
        tenths("c000;", 0, 10, 0, 1);
    }

    private static void tenths(String child, int crack, int s, int missedAbove, int missedBelow) {
        ItWasLikeThat x = withChances(child + "f000+;", 0, 0, crack);
        Due.due("punish(" + s + "), just so many", x.punish(s), 1);
        isMissed(x, s, missedAbove, missedBelow);
        if (s < 10) {
            Due.due("punish(" + (s + 1) + "), a tenth more", x.punish(s + 1), 0);
        }
        x.chance(6, crack + 1);
        Due.due("punish(" + s + "), not so many", x.punish(s), 0);
        if (crack > 0) {
            x.chance(6, crack - 1);
            Due.due("punish(" + s + "), more than so many", x.punish(s), 1);
        }
    }

    private static void punishedOrNot() {
        Due.about("PUNISH: s tenths or more (0 .. 10): who (bits)");
        ItWasLikeThat x = withChances("r22;d01;c400;c400;c400;c400;", 0, 0, 0);
        Due.due("punish(0)", x.punish(0), 15);
        Due.due("punish(2)", x.punish(2), 15);
        Due.due("punish(3)", x.punish(3), 0);
        x.fact(3, 0, 1, 1);
        x.fact(0, 0, 0, 1);
        // 8, 4, 4, 0 of 16.
        int[] want = {15, 7, 7, 1, 1, 1, 0, 0, 0, 0, 0};
        for (int s = 0; s <= 10; s++) {
            Due.due("punish(" + s + ")", x.punish(s), want[s]);
        }
        Due.due("punish(-1)", x.punish(-1), -4);
        Due.due("punish(11)", x.punish(11), -6);
    }

    private static void noneOfThese() {
        Due.about("how likely the doer is none of these (a fraction; the cat, wind, crack are none)");
        ItWasLikeThat x = withChances("r22;d01;c400;c400;c400;c400;", 0, 0, 0);
        x.fact(3, 0, 1, 1);
        x.fact(0, 0, 0, 1);
        isMissed(x, 0, 0, 1);
        isMissed(x, 1, 0, 1);
        isMissed(x, 3, 1, 2);
        isMissed(x, 6, 1, 1);
        isMissed(x, 10, 1, 1);
        x.chance(4, 16);
        // 8, 4, 4, 0 and 16 of 32: of these three are punished, then one, then none.
        isMissed(x, 0, 1, 2);
        isMissed(x, 1, 1, 2);
        isMissed(x, 2, 3, 4);
        isMissed(x, 3, 1, 1);
        Due.due("missed(-1, 0)", x.missed(-1, 0), LONGS + 4);
        Due.due("missed(11, 0)", x.missed(11, 0), LONGS + 6);
        Due.due("missed(10, 2)", x.missed(10, 2), LONGS + 2);
        Due.due("missed(0, -1)", x.missed(0, -1), LONGS + 2);
    }
}
