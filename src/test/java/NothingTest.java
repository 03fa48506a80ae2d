/** What each call answers where there is nothing: of a new object, and of one where all has gone. */
public final class NothingTest {
    private static final long LONGS = 4000000000000000000L;

    public static void main(String[] args) {
        Due.about("ItWasLikeThat(): Three ROOMS, four MINUTES, nobody.");
        nothing(new ItWasLikeThat());
        Due.about("\"r\" ROOMS, MINUTES: all DOORS, CHILDREN, FACTS are none then, the DEED 0, 0");
        nothing(emptied());
        Due.about("RESTORED, as nothing was there");
        nothing(restored());
        Due.end();
    }

    private static ItWasLikeThat emptied() {
        ItWasLikeThat x = Due.told("d01;d12;c000;c412;b23;t01222;f012-;");
        x.says(1, 0, 0, 0);
        Due.row(x, 0, 0);
        x.judge();
        Due.tell(x, "r34;");
        return x;
    }

    private static ItWasLikeThat restored() {
        ItWasLikeThat x = new ItWasLikeThat();
        x.image();
        Due.tell(x, "r46;d01;d12;c000;c412;b23;t0122222;f012-;");
        x.says(1, 0, 0, 0);
        x.chance(6, 9);
        x.restore();
        return x;
    }

    private static void nothing(ItWasLikeThat x) {
        Due.counts(x, 3, 4, 0, 0, 0, 0, 0, 0, 0, 0, -9, 0, 0, 0, 0, 0, 0, -9);
        Due.due("can(0)", x.can(0), 0);
        Due.due("can(1)", x.can(1), 0);
        long[][] who = {{1, 2}, {1, 4}, {1, 4}};
        for (int culprit = 4; culprit <= 6; culprit++) {
            Due.due("who(" + culprit + ", 0)", x.who(culprit, 0), who[culprit - 4][0]);
            Due.due("who(" + culprit + ", 1)", x.who(culprit, 1), who[culprit - 4][1]);
        }
        Due.due("likeliest()", x.likeliest(), 4);
        Due.due("hush()", x.hush(), 0);
        Due.due("together(0)", x.together(0), 1);
        for (int what = 0; what < 4; what++) {
            Due.due("most(" + what + ")", x.most(what), 0);
        }
        Due.due("first()", x.first(), -9);
        Due.due("tale(99, 0)", x.tale(99, 0), 0);
        Due.due("tale(0, 1)", x.tale(0, 1), -9);
        Due.due("lasts(4, 0)", x.lasts(4, 0), 1);
        Due.due("lasts(4, 1)", x.lasts(4, 1), 1);
        Due.due("half()", x.half(), -9);
        Due.due("old(0, 1, 0, 0)", x.old(0, 1, 0, 0), 0);
        Due.due("old(0, 1, 0, 1)", x.old(0, 1, 0, 1), 0);
        for (int s = 0; s <= 10; s++) {
            Due.due("punish(" + s + ")", x.punish(s), 0);
            Due.due("missed(" + s + ", 0)", x.missed(s, 0), 1);
            Due.due("missed(" + s + ", 1)", x.missed(s, 1), 1);
        }
        Due.due("learn(20, 1, 99)", x.learn(20, 1, 99), 0);
        Due.due("judge()", x.judge(), -9);
        Due.due("seeds(20, 1, 0)", x.seeds(20, 1, 0), 0);
        Due.due("seeds(20, 1, 1)", x.seeds(20, 1, 1), 0);
        Due.due("house()", x.house(), -1000);
        Due.nothingRefused(x);
        refused(x);
    }

    private static void refused(ItWasLikeThat x) {
        long[] got = {
            x.child(0, 0), x.was(0, 0), x.fact(0, 0, 0, 0), x.ways(0, 0), x.where(0, 0), x.says(0, 0, 0, 0),
            x.holds(0), x.together(1), x.ask(0, 0, 0, 0), x.law(0, 0, 0, 0), x.byLaws(0, 0), LONGS - x.who(0, 0)
        };
        for (int i = 0; i < got.length; i++) {
            Due.due("refused as of nobody, number " + i, got[i], -1);
        }
        Due.due("unfact()", x.unfact(), -3);
        int[] want = {12, 0, 1, 0, 0, 0};
        for (int i = 0; i < want.length; i++) {
            Due.due("count(" + (11 + i) + ")", x.count(11 + i), want[i]);
        }
    }
}
