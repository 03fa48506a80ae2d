/** Promises 8 (fact), 9 (unfact), 10 (chance), 11 (ways), 12 (can), 13 (where). */
public final class FactsTest {
    public static void main(String[] args) {
        fact();
        sixteenFacts();
        unfact();
        chance();
        ways();
        can();
        where();
        Due.end();
    }

    private static void fact() {
        ItWasLikeThat x = Due.told("r32;d01;c000;c000;");
        Due.due("ways at first", x.ways(0, 0), 5);
        Due.due("fact(0, 1, 0, 0)", x.fact(0, 1, 0, 0), 1);
        Due.due("ways", x.ways(0, 0), 3);
        Due.due("ways of the other", x.ways(1, 0), 5);
        Due.due("fact(0, 0, 0, 1)", x.fact(0, 0, 0, 1), 2);
        Due.due("ways", x.ways(0, 0), 1);
        Due.refused(x, "fact(0, 1, 1, 0)", x.fact(0, 1, 1, 0), -3, 0);
        Due.refused(x, "fact(0, 1, 2, 1)", x.fact(0, 1, 2, 1), -3, 1);
        Due.due("count(4)", x.count(4), 2);
        Due.due("ways still", x.ways(0, 0), 1);
        Due.due("the same again", x.fact(0, 0, 0, 1), 3);
        Due.refused(x, "fact(2, ..)", x.fact(2, 0, 0, 2), -1, 0);
        Due.refused(x, "fact(-1, ..)", x.fact(-1, 0, 0, 1), -1, 1);
        Due.refused(x, "fact(.., 2, ..)", x.fact(0, 2, 0, 1), -1, 2);
        Due.refused(x, "fact(.., -1, ..)", x.fact(0, -1, 0, 1), -1, 3);
        Due.refused(x, "fact(.., 3, 1)", x.fact(0, 0, 3, 1), -1, 4);
        Due.refused(x, "fact(.., -1, 1)", x.fact(0, 0, -1, 1), -1, 5);
        Due.refused(x, "fact(.., 2)", x.fact(0, 0, 0, 2), -2, 0);
        Due.refused(x, "fact(.., -1)", x.fact(0, 0, 2, -1), -2, 1);
        Due.due("count(4)", x.count(4), 3);
    }

    private static void sixteenFacts() {
        ItWasLikeThat x = Due.told("c000;");
        for (int i = 1; i <= 16; i++) {
            Due.due("fact, the " + i + "th", x.fact(0, 0, 1, 0), i);
        }
        Due.refused(x, "the 17th", x.fact(0, 0, 1, 0), -6, 0);
        Due.refused(x, "the 17th without WAY", x.fact(0, 0, 1, 1), -6, 1);
        Due.refused(x, "the 17th, is 2", x.fact(0, 0, 1, 2), -2, 0);
        Due.due("unfact()", x.unfact(), 15);
        Due.refused(x, "the 16th without WAY", x.fact(0, 0, 1, 1), -3, 0);
        Due.due("the 16th again", x.fact(0, 3, 1, 0), 16);
    }

    private static void unfact() {
        ItWasLikeThat x = Due.told("r32;d01;c000;");
        Due.refused(x, "unfact() of none", x.unfact(), -3, 0);
        x.fact(0, 0, 0, 1);
        x.fact(0, 1, 0, 1);
        Due.due("ways", x.ways(0, 0), 1);
        Due.due("unfact()", x.unfact(), 1);
        Due.due("ways", x.ways(0, 0), 2);
        Due.due("unfact()", x.unfact(), 0);
        Due.due("ways", x.ways(0, 0), 5);
        Due.refused(x, "unfact() of none", x.unfact(), -3, 1);
    }

    private static void chance() {
        ItWasLikeThat x = new ItWasLikeThat();
        Due.due("chance(4, 99)", x.chance(4, 99), 2);
        Due.due("chance(5, 0)", x.chance(5, 0), 1);
        Due.due("chance(6, 7)", x.chance(6, 7), 1);
        Due.refused(x, "chance(3, 1)", x.chance(3, 1), -1, 0);
        Due.refused(x, "chance(7, -1)", x.chance(7, -1), -1, 1);
        Due.refused(x, "chance(-1, 1)", x.chance(-1, 1), -1, 2);
        Due.refused(x, "chance(4, -1)", x.chance(4, -1), -4, 0);
        Due.refused(x, "chance(4, 100)", x.chance(4, 100), -6, 0);
        Due.due("chance(4, 1)", x.chance(4, 1), 99);
        Due.due("chance(5, 1)", x.chance(5, 1), 0);
        Due.due("chance(6, 1)", x.chance(6, 1), 7);
    }

    private static void ways() {
        ItWasLikeThat x = Due.told("r22;c000;");
        Due.due("ways without DOOR", x.ways(0, 0), 2);
        Due.due("THERE", x.ways(0, 1), 1);
        x = Due.told("r46;d01;d02;d03;d12;d13;d23;c000;b35;");
        Due.due("ways by all DOORS", x.ways(0, 0), 4096);
        Due.due("THERE", x.ways(0, 1), 1024);
        // A row of three ROOMS in three MINUTES: 2 + 3 + 2 in two, 5 + 7 + 5 in three.
        x = Due.told("r33;d01;d12;c000;b11;");
        Due.due("ways in a row", x.ways(0, 0), 17);
        Due.due("THERE in the middle", x.ways(0, 1), 9);
        x.deed(0, 0);
        Due.due("THERE at first", x.ways(0, 1), 5);
        x.fact(0, 1, 1, 0);
        Due.due("never in the middle then", x.ways(0, 0), 8);
        Due.due("THERE", x.ways(0, 1), 2);
        Due.refused(x, "ways(1, 0)", x.ways(1, 2), -1, 0);
        Due.refused(x, "ways(-1, 0)", x.ways(-1, 0), -1, 1);
        Due.refused(x, "ways(0, 2)", x.ways(0, 2), -2, 0);
        Due.refused(x, "ways(0, -1)", x.ways(0, -1), -2, 1);
    }

    private static void can() {
        ItWasLikeThat x = Due.told("r32;d01;c000;c000;c000;b10;");
        Due.due("can(0)", x.can(0), 7);
        Due.due("can(1)", x.can(1), 0);
        x.fact(0, 0, 1, 0);
        x.fact(1, 0, 1, 1);
        x.fact(2, 1, 2, 0);
        Due.due("can(0)", x.can(0), 6);
        Due.due("can(1)", x.can(1), 2);
        x.fact(2, 0, 0, 0);
        Due.due("can(0)", x.can(0), 6);
        Due.due("can(1)", x.can(1), 6);
        x.fact(2, 1, 1, 1);
        Due.due("THERE by one WAY", x.ways(2, 1), 1);
        Due.due("can(0) by one WAY", x.can(0), 6);
        Due.due("can(1) by one WAY", x.can(1), 6);
        Due.refused(x, "can(2)", x.can(2), -2, 0);
        Due.refused(x, "can(-1)", x.can(-1), -2, 1);
        Due.due("can(0) of nobody", new ItWasLikeThat().can(0), 0);
    }

    private static void where() {
        ItWasLikeThat x = Due.told("r44;d01;d12;d23;c000;");
        Due.due("where(0, 0)", x.where(0, 0), 15);
        x.fact(0, 0, 0, 1);
        int[] want = {1, 3, 7, 15};
        for (int m = 0; m < 4; m++) {
            Due.due("where(0, " + m + ")", x.where(0, m), want[m]);
        }
        x.fact(0, 3, 3, 1);
        for (int m = 0; m < 4; m++) {
            Due.due("where(0, " + m + ")", x.where(0, m), 1 << m);
        }
        x.unfact();
        x.fact(0, 3, 2, 1);
        int[] then = {1, 3, 6, 4};
        for (int m = 0; m < 4; m++) {
            Due.due("where(0, " + m + ")", x.where(0, m), then[m]);
        }
        Due.refused(x, "where(1, 0)", x.where(1, 0), -1, 0);
        Due.refused(x, "where(-1, 0)", x.where(-1, 0), -1, 1);
        Due.refused(x, "where(0, 4)", x.where(0, 4), -1, 2);
        Due.refused(x, "where(0, -1)", x.where(0, -1), -1, 3);
    }
}
