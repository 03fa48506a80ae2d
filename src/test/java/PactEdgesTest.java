/** Promises 23 to 28, 31: TALES, LAWS, OLD, LEARN at their edges. */
public final class PactEdgesTest {
    private static final long LONGS = 4000000000000000000L;

    public static void main(String[] args) {
        taleOfOne();
        taleOfAll();
        deedFirst();
        lasts();
        half();
        slipsOfAll();
        penaltyOfNought();
        oddPenalties();
        paidByAll();
        namedByOneAtLeast();
        namedByWhomever();
        ownsIfAsMuch();
        innocent();
        oldAtLeastNought();
        oldIsCut();
        oldAtItsEnds();
        learnToNine();
        learnToNought();
        learnByNoPenalty();
        Due.end();
    }

    private static void isTale(ItWasLikeThat x, int n, int points, int first) {
        Due.due("tale(" + n + ", 0)", x.tale(n, 0), points);
        Due.due("tale(" + n + ", 1)", x.tale(n, 1), first);
    }

    private static void taleOfOne() {
        Due.about("one point of a MINUTE of each CHILD takes 2 seconds, one of the MINUTE of the DEED 5; -9");
        ItWasLikeThat x = Due.told("r22;c000;b01;");
        for (int n = 0; n <= 99; n++) {
            isTale(x, n, n < 5 ? 0 : n < 7 ? 1 : 2, n < 5 ? 1 : n < 7 ? 0 : -9);
        }
        Due.due("tale(-1, 0)", x.tale(-1, 0), -4);
        Due.due("tale(100, 0)", x.tale(100, 0), -6);
        Due.about("A TALE of nobody: how many points (what 0), the first that is not fixed (1; -9)");
        isTale(new ItWasLikeThat(), 0, 0, -9);
        isTale(new ItWasLikeThat(), 99, 0, -9);
    }

    private static void taleOfAll() {
        Due.about("A TALE agreed on in n seconds (0 .. 99): how many points are fixed; the first that is not");
        ItWasLikeThat x = Due.told("r46;c000;c000;c000;c000;");
        isTale(x, 0, 0, 0);
        isTale(x, 4, 0, 0);
        isTale(x, 5, 1, 10);
        isTale(x, 19, 3, 30);
        isTale(x, 20, 4, 1);
        isTale(x, 21, 4, 1);
        isTale(x, 22, 5, 11);
        isTale(x, 27, 7, 31);
        isTale(x, 28, 8, 2);
        isTale(x, 58, 23, 35);
        isTale(x, 59, 23, 35);
        isTale(x, 60, 24, -9);
        isTale(x, 61, 24, -9);
        isTale(x, 99, 24, -9);
    }

    private static void deedFirst() {
        Due.about("first the MINUTE of the DEED of all CHILDREN by numbers, then MINUTES 0 .. others");
        for (int deed = 0; deed < 6; deed++) {
            ItWasLikeThat x = Due.told("r26;c000;c000;b0" + deed + ";");
            isTale(x, 0, 0, deed);
            isTale(x, 9, 1, 10 + deed);
            int first = deed == 0 ? 1 : 0;
            int last = deed == 5 ? 4 : 5;
            isTale(x, 10, 2, first);
            isTale(x, 12, 3, 10 + first);
            isTale(x, 29, 11, 10 + last);
            isTale(x, 30, 12, -9);
        }
    }

    private static void isLasting(ItWasLikeThat x, int n, long above, long below) {
        Due.due("lasts(" + n + ", 0)", x.lasts(n, 0), above);
        Due.due("lasts(" + n + ", 1)", x.lasts(n, 1), below);
    }

    private static void lasts() {
        Due.about("LASTS n weeks (0 .. 4): how likely no CHILD's tale breaks in these");
        isLasting(new ItWasLikeThat(), 0, 1, 1);
        isLasting(new ItWasLikeThat(), 4, 1, 1);
        ItWasLikeThat x = Due.told("c000;");
        isLasting(x, 0, 1, 1);
        isLasting(x, 1, 4, 5);
        isLasting(x, 2, 16, 25);
        isLasting(x, 3, 64, 125);
        isLasting(x, 4, 256, 625);
        Due.due("lasts(-1, 0)", x.lasts(-1, 0), LONGS + 4);
        Due.due("lasts(5, 0)", x.lasts(5, 0), LONGS + 6);
        Due.due("lasts(5, 2)", x.lasts(5, 2), LONGS + 6);
        Due.due("lasts(4, 2)", x.lasts(4, 2), LONGS + 2);
        // Four by 9 of 10 each in four weeks: 3 to the 32nd by 10 to the 16th.
        x = Due.told("c200;c200;c200;c200;");
        isLasting(x, 4, 1853020188851841L, 10000000000000000L);
        x = Due.told("c390;c380;c390;c380;");
        isLasting(x, 4, 1, 65536);
        x = Due.told("c100;c100;c100;c100;");
        isLasting(x, 4, 65536, 152587890625L);
    }

    private static void half() {
        Due.about("HALF: the first week (1 .. 99) behind which less than five thousand are left; -9");
        Due.due("half() of nobody", new ItWasLikeThat().half(), -9);
        // 9000, 8100, 7290, 6561, 5904, 5313, 4781.
        Due.due("half() of a LOYAL", Due.told("c200;").half(), 7);
        // 7000, 4900.
        Due.due("half() of a BOLD", Due.told("c400;").half(), 2);
        // Five thousand are not less than five thousand.
        Due.due("half() of just a half", Due.told("c390;").half(), 2);
        Due.due("half() of just a half, and some", Due.told("c390;c200;").half(), 1);
        // 4000.
        Due.due("half() of a SMALL", Due.told("c100;").half(), 1);
    }

    private static void slipsOfAll() {
        Due.about("SLIPS: SILENT half of a SMALL's, cut; BOUGHT half of FIGURE, cut; 0 at least, 9 at most");
        ItWasLikeThat x = Due.told("c590;c310;c320;c390;");
        int[] want = {3, 1, 2, 5};
        for (int child = 0; child < 4; child++) {
            Due.due("child(" + child + ", 5)", x.child(child, 5), want[child]);
        }
        isLasting(x, 1, 7 * 9 * 8 * 5 / 40, 10000 / 40);
    }

    private static void pays(ItWasLikeThat x, int doer, int law, int v, int... want) {
        for (int what = 0; what < 4; what++) {
            Due.due("law(" + doer + ", " + law + ", " + v + ", " + what + ")", x.law(doer, law, v, what), want[what]);
        }
    }

    private static ItWasLikeThat notNamed(int children) {
        return Due.told("r32;b10;" + "c000;".repeat(children));
    }

    private static ItWasLikeThat named() {
        return Due.told("r32;b10;c000;c100;t011;");
    }

    private static void penaltyOfNought() {
        Due.about("PENALTY v (0 .. 99)");
        for (int law = 0; law < 4; law++) {
            pays(named(), 0, law, 0, 0, 0, 1, 0);
            pays(notNamed(3), 2, law, 0, 0, 0, 1, 0);
        }
        Due.due("byLaws(0, 0)", named().byLaws(0, 0), 15);
        Due.due("byLaws(0, 0)", notNamed(3).byLaws(0, 0), 15);
        pays(named(), 0, 0, 99, 49, 99, 1, 0);
        pays(named(), 0, 1, 99, 99, 99, 1, 0);
        pays(named(), 0, 2, 99, 99, 99, 1, 0);
        pays(named(), 0, 3, 99, 0, 99, 1, 0);
        Due.due("byLaws(0, 99)", named().byLaws(0, 99), 15);
    }

    private static void oddPenalties() {
        Due.about("0 HALF: to own up costs v by 2, cut");
        int[] penalties = {1, 2, 3, 98, 99};
        int[] halves = {0, 1, 1, 49, 49};
        for (int i = 0; i < penalties.length; i++) {
            pays(named(), 0, 0, penalties[i], halves[i], penalties[i], 1, 0);
        }
    }

    private static void paidByAll() {
        Due.about("by none all pay v by how many CHILDREN, cut");
        // Who is alone pays all: to own up costs less.
        pays(notNamed(1), 0, 0, 99, 49, 99, 1, 0);
        pays(notNamed(1), 0, 0, 1, 0, 1, 1, 0);
        // Of two each pays as much as owning up costs.
        pays(notNamed(2), 1, 0, 99, 49, 49, 1, 0);
        pays(notNamed(3), 1, 0, 99, 49, 33, 0, 66);
        pays(notNamed(3), 1, 0, 98, 49, 32, 0, 64);
        pays(notNamed(4), 1, 0, 99, 49, 24, 0, 72);
        pays(notNamed(4), 1, 0, 3, 1, 0, 0, 0);
        pays(notNamed(4), 1, 0, 4, 2, 1, 0, 3);
        pays(notNamed(4), 1, 0, 1, 0, 0, 1, 0);
    }

    private static void namedByOneAtLeast() {
        Due.about("NAMED: how many others SAY that it was in the ROOM of the DEED then");
        // Nobody, one, two, three others that SAY TRULY.
        String[] others = {"c500;c500;c500;", "c100;c500;c500;", "c500;c100;c100;", "c100;c100;c100;"};
        for (int namers = 0; namers <= 3; namers++) {
            ItWasLikeThat x = Due.told("r32;b10;c000;" + others[namers] + "t011;");
            Due.due("law(0, 1, 50, 1) by " + namers, x.law(0, 1, 50, 1), namers == 0 ? 0 : 50);
            Due.due("law(0, 0, 50, 1) by " + namers, x.law(0, 0, 50, 1), namers == 0 ? 12 : 50);
            Due.due("law(0, 3, 50, 1) by " + namers, x.law(0, 3, 50, 1), namers == 0 ? 0 : 50);
            Due.due("law(0, 2, 50, 1) by " + namers, x.law(0, 2, 50, 1), 50);
        }
        // Its own word is not another's; one that says nothing names nobody.
        Due.due("by itself alone", Due.told("r32;b10;c100;t011;").law(0, 1, 50, 1), 0);
        Due.due("by nothing said", Due.told("r32;b10;c100;c500;t011;").law(0, 1, 50, 1), 0);
        Due.due("by the other ROOM", Due.told("r32;b10;c100;c100;t000;").law(0, 1, 50, 1), 0);
        // Named falsely, though it was not THERE; not named, as one that is LOYAL to it lies.
        Due.due("by a BOLD of FIGURE 9", Due.told("r32;b10;c100;c490;").law(0, 1, 50, 1), 50);
        Due.due("by a BOUGHT of FIGURE 5", Due.told("r32;b10;c100;c351;").law(0, 1, 50, 1), 50);
        Due.due("by a BOUGHT of FIGURE 4", Due.told("r32;b10;c100;c341;").law(0, 1, 50, 1), 0);
        Due.due("by a LOYAL", Due.told("r32;b10;c100;c200;t011;").law(0, 1, 50, 1), 0);
    }

    /** One alone SAYS TRULY where the doer was, the others nothing. */
    private static void namedByWhomever() {
        Due.about("NAMED: how many others SAY that it was in the ROOM of the DEED then");
        for (int doer = 0; doer < 4; doer++) {
            for (int namer = 0; namer < 4; namer++) {
                StringBuilder text = new StringBuilder("r32;b11;");
                for (int child = 0; child < 4; child++) {
                    text.append(child == namer ? "c100;" : "c500;");
                }
                ItWasLikeThat x = Due.told(text.append('t').append(doer).append("11;").toString());
                int due = namer == doer ? 0 : 7;
                Due.due("law(" + doer + ", 1, 7, 1), named by " + namer, x.law(doer, 1, 7, 1), due);
                Due.due("byLaws(" + doer + ", 7), named by " + namer, x.byLaws(doer, 7), due == 0 ? 12 : 15);
            }
        }
    }

    private static void ownsIfAsMuch() {
        Due.about("OWNS: whether owning up costs no more");
        ItWasLikeThat x = notNamed(2);
        Due.due("law(0, 0, 1, 2), 0 as 0", x.law(0, 0, 1, 2), 1);
        Due.due("law(0, 0, 99, 2), 49 as 49", x.law(0, 0, 99, 2), 1);
        Due.due("law(0, 2, 99, 2), 99 as 99", x.law(0, 2, 99, 2), 1);
        Due.due("law(0, 1, 0, 2), 0 as 0", x.law(0, 1, 0, 2), 1);
        Due.due("law(0, 1, 1, 2), 1 not 0", x.law(0, 1, 1, 2), 0);
        Due.due("law(0, 3, 99, 2), 0 as 0", x.law(0, 3, 99, 2), 1);
        Due.due("byLaws(0, 1)", x.byLaws(0, 1), 13);
        x = notNamed(3);
        Due.due("law(0, 0, 2, 2), 1 not 0", x.law(0, 0, 2, 2), 0);
        Due.due("law(0, 0, 3, 2), 1 as 1", x.law(0, 0, 3, 2), 1);
        Due.due("law(0, 0, 4, 2), 2 not 1", x.law(0, 0, 4, 2), 0);
        Due.due("byLaws(0, 3)", x.byLaws(0, 3), 13);
        Due.due("byLaws(0, 4)", x.byLaws(0, 4), 12);
    }

    private static void innocent() {
        Due.about("INNOCENT: what others pay together, if it does what costs it less (owning up, if as much)");
        Due.due("as much: it owns up", notNamed(2).law(0, 0, 99, 3), 0);
        Due.due("as much: it owns up", notNamed(2).law(0, 2, 99, 3), 0);
        Due.due("as much: it owns up", notNamed(3).law(0, 0, 3, 3), 0);
        Due.due("less: two others pay 1 each", notNamed(3).law(0, 0, 4, 3), 2);
        Due.due("less: three others pay 24 each", notNamed(4).law(3, 0, 99, 3), 72);
        Due.due("nobody pays by WHOLE", notNamed(4).law(3, 1, 99, 3), 0);
        Due.due("nobody else is there", notNamed(1).law(0, 0, 99, 3), 0);
        Due.due("named: it owns up", named().law(0, 0, 99, 3), 0);
    }

    private static void isOld(ItWasLikeThat x, int dust, int m, int d, int least, int greatest) {
        Due.due("old(" + dust + ", " + m + ", " + d + ", 0)", x.old(dust, m, d, 0), least);
        Due.due("old(" + dust + ", " + m + ", " + d + ", 1)", x.old(dust, m, d, 1), greatest);
    }

    private static void oldAtLeastNought() {
        Due.about("OLD: the least, the greatest months (cut; 0 at least)");
        ItWasLikeThat x = new ItWasLikeThat();
        isOld(x, 0, 1, 0, 0, 0);
        isOld(x, 0, 1, 9, 0, 9);
        isOld(x, 0, 99, 9, 0, 0);
        isOld(x, 1, 1, 9, 0, 10);
        isOld(x, 8, 1, 9, 0, 17);
        isOld(x, 9, 1, 9, 0, 18);
        isOld(x, 10, 1, 9, 1, 19);
        isOld(x, 8, 2, 9, 0, 8);
    }

    private static void oldIsCut() {
        Due.about("OLD: months (cut)");
        ItWasLikeThat x = new ItWasLikeThat();
        isOld(x, 9, 10, 0, 0, 0);
        isOld(x, 10, 10, 0, 1, 1);
        isOld(x, 19, 10, 0, 1, 1);
        isOld(x, 20, 10, 1, 1, 2);
        isOld(x, 19, 10, 1, 1, 2);
        isOld(x, 21, 10, 1, 2, 2);
        isOld(x, 98, 99, 0, 0, 0);
        isOld(x, 99, 99, 1, 0, 1);
        isOld(x, 98, 99, 1, 0, 1);
    }

    private static void oldAtItsEnds() {
        Due.about("dust (0 .. 999), m more a month (1 .. 99), d (0 .. 9)");
        ItWasLikeThat x = new ItWasLikeThat();
        isOld(x, 999, 1, 0, 999, 999);
        isOld(x, 999, 1, 9, 990, 1008);
        isOld(x, 999, 99, 9, 10, 10);
        isOld(x, 999, 99, 0, 10, 10);
        Due.due("old(1000, 1, 0, 0)", x.old(1000, 1, 0, 0), -6);
        Due.due("old(0, 100, 0, 0)", x.old(0, 100, 0, 0), -6);
        Due.due("old(0, 1, 10, 0)", x.old(0, 1, 10, 0), -6);
        Due.due("old(-1, 1, 0, 0)", x.old(-1, 1, 0, 0), -4);
        Due.due("old(0, 0, 0, 0)", x.old(0, 0, 0, 0), -4);
        Due.due("old(0, 1, -1, 0)", x.old(0, 1, -1, 0), -4);
        // A month of nothing more is refused ahead of too much dust.
        Due.due("old(1000, 0, 10, 2)", x.old(1000, 0, 10, 2), -4);
        Due.due("count(14)", x.count(14), 4);
        Due.due("count(16)", x.count(16), 3);
    }

    private static void learnToNine() {
        Due.about("SKILL 1 more (9 at most): SKILLS together then");
        for (int children = 0; children <= 4; children++) {
            ItWasLikeThat x = notNamed(children);
            for (int n = 1; n <= 20; n++) {
                Due.due("learn(" + n + ", 1, 99) of " + children, x.learn(n, 1, 99), children * Math.min(9, n));
            }
            Due.due("learn(0, 1, 99)", x.learn(0, 1, 99), -4);
            Due.due("learn(21, 1, 99)", x.learn(21, 1, 99), -6);
            Due.due("count(9)", x.count(9), 0);
        }
    }

    private static void learnToNought() {
        Due.about("else 1 less (0 at least)");
        ItWasLikeThat x = notNamed(4);
        Due.due("learn(1, 2, 99)", x.learn(1, 2, 99), 0);
        Due.due("learn(20, 2, 99)", x.learn(20, 2, 99), 0);
        Due.due("learn(20, 3, 99)", x.learn(20, 3, 99), 0);
        // 0 is named and owns up; 1, that nobody names, learns.
        x = named();
        Due.due("learn(1, 1, 1)", x.learn(1, 1, 1), 1);
        Due.due("learn(20, 1, 1)", x.learn(20, 1, 1), 9);
    }

    private static void learnByNoPenalty() {
        Due.about("one that would not OWN up (by PENALTY v)");
        ItWasLikeThat x = notNamed(3);
        for (int law = 0; law < 4; law++) {
            Due.due("learn(20, " + law + ", 0)", x.learn(20, law, 0), 0);
        }
        Due.due("learn(20, 1, 1)", x.learn(20, 1, 1), 27);
        Due.due("learn(20, 0, 1)", x.learn(20, 0, 1), 0);
        Due.due("learn(20, 0, 2)", x.learn(20, 0, 2), 27);
        Due.due("learn(20, 0, 3)", x.learn(20, 0, 3), 0);
        Due.due("learn(20, 0, 99)", x.learn(20, 0, 99), 27);
        Due.due("learn(20, 0, 100)", x.learn(20, 0, 100), -6);
        Due.due("learn(20, 0, -1)", x.learn(20, 0, -1), -4);
    }
}
