/** Promises 14 (who), 15 (likeliest), 29 (punish), 30 (missed). */
public final class WhoTest {
    private static final long LONGS = 4000000000000000000L;

    public static void main(String[] args) {
        who();
        nobodyCanBe();
        likeliest();
        punish();
        missed();
        greatestNumbers();
        Due.end();
    }

    private static void fraction(String what, long above, long below, long wantAbove, long wantBelow) {
        Due.due(what + " above", above, wantAbove);
        Due.due(what + " below", below, wantBelow);
    }

    private static void who(ItWasLikeThat x, int culprit, long above, long below) {
        fraction("who(" + culprit + ")", x.who(culprit, 0), x.who(culprit, 1), above, below);
    }

    private static void missed(ItWasLikeThat x, int s, long above, long below) {
        fraction("missed(" + s + ")", x.missed(s, 0), x.missed(s, 1), above, below);
    }

    /** A CHILD's 5 and a BOLD's 8 by a half, the others' 2, 1, 1: 10.5 together. */
    private static ItWasLikeThat two() {
        return Due.told("r22;d01;c000;c400;");
    }

    private static void who() {
        ItWasLikeThat x = two();
        who(x, 0, 5, 21);
        who(x, 1, 8, 21);
        who(x, 4, 4, 21);
        who(x, 5, 2, 21);
        who(x, 6, 2, 21);
        // With one surely THERE, one surely not: 5, 0, 2, 1, 1.
        x.fact(0, 0, 0, 1);
        x.fact(1, 0, 0, 0);
        who(x, 0, 5, 9);
        who(x, 1, 0, 1);
        x.chance(4, 0);
        x.chance(5, 0);
        x.chance(6, 0);
        who(x, 0, 1, 1);
        who(x, 4, 0, 1);
        Due.refused(x, "who(2, 0)", LONGS - x.who(2, 5), -1, 0);
        Due.due("who(3, 0)", x.who(3, 0), LONGS + 1);
        Due.due("who(7, 0)", x.who(7, 0), LONGS + 1);
        Due.due("who(-1, 0)", x.who(-1, 0), LONGS + 1);
        Due.due("who(0, 2)", x.who(0, 2), LONGS + 2);
        Due.due("who(0, -1)", x.who(0, -1), LONGS + 2);
        Due.due("count(11)", x.count(11), 4);
        Due.due("count(12)", x.count(12), 2);
    }

    private static ItWasLikeThat nobody() {
        ItWasLikeThat x = Due.told("c000;c000;f000-;f100-;");
        x.chance(4, 0);
        x.chance(5, 0);
        x.chance(6, 0);
        return x;
    }

    private static void nobodyCanBe() {
        ItWasLikeThat x = nobody();
        who(x, 0, 0, 1);
        who(x, 6, 0, 1);
        Due.due("likeliest()", x.likeliest(), -9);
        Due.due("punish(0)", x.punish(0), 3);
        Due.due("punish(1)", x.punish(1), 0);
        missed(x, 0, 0, 1);
        missed(x, 10, 0, 1);
    }

    private static void likeliest() {
        ItWasLikeThat x = new ItWasLikeThat();
        Due.due("likeliest()", x.likeliest(), 4);
        x.chance(5, 2);
        Due.due("of several the least", x.likeliest(), 4);
        x.chance(6, 3);
        Due.due("likeliest()", x.likeliest(), 6);
        x.chance(4, 0);
        x.chance(5, 1);
        x.chance(6, 0);
        Due.due("by one tenth alone", x.likeliest(), 5);
        Due.due("BOLD", two().likeliest(), 1);
        x = Due.told("r22;d01;c000;c000;");
        Due.due("of two CHILDREN", x.likeliest(), 0);
        x.chance(4, 3);
        Due.due("the cat", x.likeliest(), 4);
    }

    private static void punish() {
        ItWasLikeThat x = two();
        int[] want = {3, 3, 3, 2, 0, 0, 0, 0, 0, 0, 0};
        for (int s = 0; s <= 10; s++) {
            Due.due("punish(" + s + ")", x.punish(s), want[s]);
        }
        x = Due.told("r22;d01;c000;c000;");
        x.chance(4, 0);
        x.chance(5, 0);
        x.chance(6, 0);
        Due.due("just five tenths", x.punish(5), 3);
        Due.due("six tenths", x.punish(6), 0);
        x.fact(0, 0, 1, 1);
        Due.due("punish(10)", x.punish(10), 2);
        Due.due("punish(0)", x.punish(0), 3);
        Due.due("punish(1)", x.punish(1), 2);
        Due.refused(x, "punish(-1)", x.punish(-1), -4, 0);
        Due.refused(x, "punish(11)", x.punish(11), -6, 0);
    }

    private static void missed() {
        ItWasLikeThat x = two();
        missed(x, 0, 8, 21);
        missed(x, 2, 8, 21);
        missed(x, 3, 13, 21);
        missed(x, 4, 1, 1);
        x.chance(4, 0);
        x.chance(5, 0);
        x.chance(6, 0);
        missed(x, 0, 0, 1);
        missed(x, 6, 5, 13);
        missed(x, 7, 1, 1);
        missed(new ItWasLikeThat(), 0, 1, 1);
        Due.due("missed(-1, 2)", x.missed(-1, 2), LONGS + 4);
        Due.due("missed(11, 2)", x.missed(11, 2), LONGS + 6);
        Due.due("missed(0, 2)", x.missed(0, 2), LONGS + 2);
        Due.due("missed(0, -1)", x.missed(0, -1), LONGS + 2);
        Due.due("count(14)", x.count(14), 1);
        Due.due("count(16)", x.count(16), 1);
        Due.due("count(12)", x.count(12), 2);
    }

    /** Four with nearly 4096 WAYS each, none alike: what is common below the line is as great as it can be. */
    private static void greatestNumbers() {
        ItWasLikeThat x = Due.told("r46;d01;d02;d03;d12;d13;d23;c400;c400;c400;c400;b00;f111-;f221-;f222-;f311-;f321-;");
        x.chance(4, 99);
        x.chance(5, 98);
        x.chance(6, 97);
        Due.due("ways(0, 0)", x.ways(0, 0), 4096);
        Due.due("ways(1, 0)", x.ways(1, 0), 3072);
        Due.due("ways(2, 0)", x.ways(2, 0), 2048);
        Due.due("ways(3, 0)", x.ways(3, 0), 2304);
        // Each is THERE by a quarter: 2 of 8 + 99 + 98 + 97 = 302.
        who(x, 3, 1, 151);
        who(x, 4, 99, 302);
        who(x, 6, 97, 302);
        missed(x, 0, 147, 151);
        Due.due("punish(3)", x.punish(3), 0);
        Due.due("likeliest()", x.likeliest(), 4);
    }
}
