/** Promises 2 to 37: each REFUSAL of each call, in its order, what it counts, and that it changes nothing. */
public final class RefusalsTest {
    private static final int NOBODY = -1;
    private static final int OTHER = -2;
    private static final int STATE = -3;
    private static final int BELOW = -4;
    private static final int ROOM = -6;

    public static void main(String[] args) {
        startsAreAsMeant();
        for (Start s : Start.ALL) {
            lettersAndHouse(s);
            facts(s);
            who(s);
            sayings(s);
            tales(s);
            laws(s);
            punishments(s);
            rowAndSeeds(s);
            restore(s);
            neverRefused(s);
        }
        factsWithoutWay();
        refusalsAdd();
        Due.end();
    }

    private static void startsAreAsMeant() {
        Due.about("what a test begins with");
        int[][] want = {{3, 4, 0, 0, 0, 0, 0, 0}, {3, 4, 3, 3, 3, 8, 2, 1}, {4, 6, 4, 16, 8, 96, 12, 1}};
        for (int i = 0; i < want.length; i++) {
            Start s = Start.ALL[i];
            int[] got = {s.rooms, s.minutes, s.children, s.facts, s.sayings, s.letters, s.numbers, s.hasImage ? 1 : 0};
            for (int k = 0; k < got.length; k++) {
                Due.due(s.name + ", number " + k, got[k], want[i][k]);
            }
            Due.nothingRefused(s.made());
        }
    }

    private static Refusals call(Start s, String name, Refusals.Call call) {
        return new Refusals(s, name, call);
    }

    private static void lettersAndHouse(Start s) {
        Due.about("feed: -4; -6 (255; 96, too).");
        call(s, "feed", (x, a) -> x.feed(a[0])).number(0, 255)
            .below(BELOW, 0).above(ROOM, 0).when(ROOM, s.letters == 96).look();
        Due.about("child: -1; -2.");
        call(s, "child", (x, a) -> x.child(a[0], a[1])).number(0, s.children - 1).number(0, 5)
            .outside(NOBODY, 0).outside(OTHER, 1).look();
        Due.about("was: -1 either.");
        call(s, "was", (x, a) -> x.was(a[0], a[1])).number(0, s.children - 1).number(0, s.minutes - 1)
            .outside(NOBODY, 0).outside(NOBODY, 1).look();
        Due.about("door: -1 two. (one twice)");
        call(s, "door", (x, a) -> x.door(a[0], a[1])).number(0, s.rooms - 1).number(0, s.rooms - 1)
            .outside(NOBODY, 0).outside(NOBODY, 1).when(NOBODY, a -> a[0] == a[1]).look();
        Due.about("deed: -1 either.");
        call(s, "deed", (x, a) -> x.deed(a[0], a[1])).number(0, s.rooms - 1).number(0, s.minutes - 1)
            .outside(NOBODY, 0).outside(NOBODY, 1).look();
    }

    private static void facts(Start s) {
        Due.about("fact: -1 each; -2 is; -6 16; -3 it has no WAY then.");
        call(s, "fact", (x, a) -> x.fact(a[0], a[1], a[2], a[3]))
            .number(0, s.children - 1).number(0, s.minutes - 1).number(0, s.rooms - 1).number(0, 1)
            .outside(NOBODY, 0).outside(NOBODY, 1).outside(NOBODY, 2).outside(OTHER, 3)
            .when(ROOM, s.facts == 16).when(STATE, a -> hasNoWay(s, a)).look();
        Due.about("unfact: -3 there is none.");
        call(s, "unfact", (x, a) -> x.unfact()).when(STATE, s.facts == 0).look();
        Due.about("chance: -1; -4; -6 99.");
        call(s, "chance", (x, a) -> x.chance(a[0], a[1])).number(4, 6).number(0, 99)
            .outside(NOBODY, 0).below(BELOW, 1).above(ROOM, 1).look();
        Due.about("ways: -1; -2.");
        call(s, "ways", (x, a) -> x.ways(a[0], a[1])).number(0, s.children - 1).number(0, 1)
            .outside(NOBODY, 0).outside(OTHER, 1).look();
        Due.about("can: -2.");
        call(s, "can", (x, a) -> x.can(a[0])).number(0, 1).outside(OTHER, 0).look();
        Due.about("where: -1 either.");
        call(s, "where", (x, a) -> x.where(a[0], a[1])).number(0, s.children - 1).number(0, s.minutes - 1)
            .outside(NOBODY, 0).outside(NOBODY, 1).look();
    }

    /** Of the two CHILDREN without DOORS, 0 is in ROOM 0 all the time; the last of them can be anywhere. */
    private static boolean hasNoWay(Start s, int[] a) {
        return !s.isFull() && a[0] == 0 && (a[2] == 0) != (a[3] == 1);
    }

    private static void who(Start s) {
        Due.about("who: Refused as told: -1; -2.");
        // One more than the last CHILD, and 3, is nobody here, where there are fewer than four.
        call(s, "who", (x, a) -> x.who(a[0], a[1])).ofLongs().number(0, s.children - 1).number(0, 1)
            .when(NOBODY, a -> !isCulprit(s, a[0])).outside(OTHER, 1).look();
        call(s, "who", (x, a) -> x.who(a[0], a[1])).ofLongs().number(4, 6).number(0, 1)
            .when(NOBODY, a -> !isCulprit(s, a[0])).outside(OTHER, 1).look();
    }

    private static boolean isCulprit(Start s, int culprit) {
        return culprit >= 0 && culprit < s.children || culprit >= 4 && culprit <= 6;
    }

    private static void sayings(Start s) {
        Due.about("says: -1 each; -6 8.");
        call(s, "says", (x, a) -> x.says(a[0], a[1], a[2], a[3]))
            .number(0, s.children - 1).number(0, s.children - 1).number(0, s.minutes - 1).number(0, s.rooms - 1)
            .outside(NOBODY, 0).outside(NOBODY, 1).outside(NOBODY, 2).outside(NOBODY, 3)
            .when(ROOM, s.sayings == 8).look();
        Due.about("holds: -1.");
        call(s, "holds", (x, a) -> x.holds(a[0])).number(0, s.sayings - 1).outside(NOBODY, 0).look();
        Due.about("together: -1 (bits of SAYINGS).");
        call(s, "together", (x, a) -> x.together(a[0])).number(0, (1 << s.sayings) - 1).outside(NOBODY, 0).look();
        Due.about("most: -2.");
        call(s, "most", (x, a) -> x.most(a[0])).number(0, 3).outside(OTHER, 0).look();
        Due.about("ask: -1 each; -2.");
        call(s, "ask", (x, a) -> x.ask(a[0], a[1], a[2], a[3]))
            .number(0, s.children - 1).number(0, s.children - 1).number(0, s.minutes - 1).number(0, 2)
            .outside(NOBODY, 0).outside(NOBODY, 1).outside(NOBODY, 2).outside(OTHER, 3).look();
    }

    private static void tales(Start s) {
        Due.about("tale: -4; -6 99; -2.");
        call(s, "tale", (x, a) -> x.tale(a[0], a[1])).number(0, 99).number(0, 1)
            .below(BELOW, 0).above(ROOM, 0).outside(OTHER, 1).look();
        Due.about("lasts: Refused as told: -4; -6 4; -2.");
        call(s, "lasts", (x, a) -> x.lasts(a[0], a[1])).ofLongs().number(0, 4).number(0, 1)
            .below(BELOW, 0).above(ROOM, 0).outside(OTHER, 1).look();
    }

    private static void laws(Start s) {
        Due.about("law: -1; -2 LAW; -4; -6 99; -2 what.");
        call(s, "law", (x, a) -> x.law(a[0], a[1], a[2], a[3]))
            .number(0, s.children - 1).number(0, 3).number(0, 99).number(0, 3)
            .outside(NOBODY, 0).outside(OTHER, 1).below(BELOW, 2).above(ROOM, 2).outside(OTHER, 3).look();
        Due.about("byLaws: -1; -4; -6 99.");
        call(s, "byLaws", (x, a) -> x.byLaws(a[0], a[1])).number(0, s.children - 1).number(0, 99)
            .outside(NOBODY, 0).below(BELOW, 1).above(ROOM, 1).look();
        Due.about("old: -4 (m below 1, others below 0); -6 (999; 99; 9); -2.");
        call(s, "old", (x, a) -> x.old(a[0], a[1], a[2], a[3]))
            .number(0, 999).number(1, 99).number(0, 9).number(0, 1)
            .below(BELOW, 0, 1, 2).above(ROOM, 0, 1, 2).outside(OTHER, 3).look();
        Due.about("learn: -4 (n below 1, v below 0); -6 (20; 99); -2.");
        call(s, "learn", (x, a) -> x.learn(a[0], a[1], a[2])).number(1, 20).number(0, 3).number(0, 99)
            .below(BELOW, 0, 2).above(ROOM, 0, 2).outside(OTHER, 1).look();
    }

    private static void punishments(Start s) {
        Due.about("punish: -4; -6 10.");
        call(s, "punish", (x, a) -> x.punish(a[0])).number(0, 10).below(BELOW, 0).above(ROOM, 0).look();
        Due.about("missed: Refused as told: -4; -6 10; -2.");
        call(s, "missed", (x, a) -> x.missed(a[0], a[1])).ofLongs().number(0, 10).number(0, 1)
            .below(BELOW, 0).above(ROOM, 0).outside(OTHER, 1).look();
    }

    private static void rowAndSeeds(Start s) {
        Due.about("row: -4; -6 (9; 12, too).");
        call(s, "row", (x, a) -> x.row(a[0])).number(0, 9)
            .below(BELOW, 0).above(ROOM, 0).when(ROOM, s.numbers == 12).look();
        Due.about("seeds: -4; -6 20; -2.");
        call(s, "seeds", (x, a) -> x.seeds(a[0], a[1], a[2])).number(1, 20).any().number(0, 1)
            .below(BELOW, 0).above(ROOM, 0).outside(OTHER, 2).look();
    }

    private static void restore(Start s) {
        Due.about("restore: -3 there is none.");
        call(s, "restore", (x, a) -> x.restore()).when(STATE, !s.hasImage).look();
    }

    /** Of these the document tells no REFUSAL; none is counted, FAULTS, -9 and another what neither. */
    private static void neverRefused(Start s) {
        Due.about("house: the FAULT (nothing is counted).");
        call(s, "house", (x, a) -> x.house()).look();
        Due.about("likeliest: LIKELIEST; -9.");
        call(s, "likeliest", (x, a) -> x.likeliest()).look();
        Due.about("hush: No SAYINGS then: how many there were.");
        call(s, "hush", (x, a) -> x.hush()).look();
        Due.about("first: FIRST; -9.");
        call(s, "first", (x, a) -> x.first()).look();
        Due.about("half: HALF; -9.");
        call(s, "half", (x, a) -> x.half()).look();
        Due.about("judge: JUDGED; -9");
        call(s, "judge", (x, a) -> x.judge()).look();
        Due.about("image: THE IMAGE is taken: how many FACTS.");
        call(s, "image", (x, a) -> x.image()).look();
        Due.about("count: -9 for another what.");
        call(s, "count", (x, a) -> x.count(a[0])).number(0, 16).look();
        call(s, "count", (x, a) -> x.count(a[0])).number(10, 10).look();
    }

    /** -6 comes ahead of -3 in what is told of fact, -2 ahead of both. */
    private static void factsWithoutWay() {
        Due.about("fact: -1 each; -2 is; -6 16; -3 it has no WAY then.");
        ItWasLikeThat x = Due.told("c000;f000+;");
        Due.refused(x, "fact(0, 3, 0, 0)", x.fact(0, 3, 0, 0), -3, 0);
        Due.refused(x, "fact(0, 3, 0, 2)", x.fact(0, 3, 0, 2), -2, 0);
        for (int i = 2; i <= 16; i++) {
            Due.due("fact(0, 3, 0, 1)", x.fact(0, 3, 0, 1), i);
        }
        Due.refused(x, "fact(0, 3, 0, 0) when there are 16", x.fact(0, 3, 0, 0), -6, 0);
        Due.refused(x, "fact(0, 3, 0, 2) when there are 16", x.fact(0, 3, 0, 2), -2, 1);
        Due.refused(x, "fact(0, 3, 3, 2) when there are 16", x.fact(0, 3, 3, 2), -1, 0);
        Due.due("count(4)", x.count(4), 16);
        Due.due("where(0, 3)", x.where(0, 3), 1);
    }

    /** 500 REFUSALS on one object, of ints and of longs. */
    private static void refusalsAdd() {
        Due.about("11 .. 16 REFUSALS -1 .. -6");
        ItWasLikeThat x = new ItWasLikeThat();
        for (int i = 1; i <= 100; i++) {
            x.was(0, 0);
            x.who(0, 0);
            x.who(4, 2);
            x.restore();
            x.missed(11, 0);
        }
        int[] want = {200, 100, 100, 0, 0, 100};
        for (int i = 0; i < want.length; i++) {
            Due.due("count(" + (11 + i) + ")", x.count(11 + i), want[i]);
        }
    }
}
