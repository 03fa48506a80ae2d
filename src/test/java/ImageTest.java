/** Promises 35 (image), 36 (restore), 37 (count). */
public final class ImageTest {
    public static void main(String[] args) {
        restoresAll();
        keepsWhatIsNotInIt();
        isNotChangedByWhatComes();
        count();
        Due.end();
    }

    private static void restoresAll() {
        ItWasLikeThat x = Due.told("r33;d01;c473;c200;t0011;b21;f022-;");
        x.says(1, 0, 2, 2);
        x.chance(5, 50);
        Due.refused(x, "restore() of none", x.restore(), -3, 0);
        Due.due("image()", x.image(), 1);
        for (int times = 0; times < 2; times++) {
            Due.tell(x, "r46;c000;c000;c000;");
            x.chance(5, 3);
            x.deed(3, 5);
            x.fact(0, 0, 0, 1);
            x.fact(0, 1, 0, 1);
            x.says(0, 0, 0, 0);
            x.says(0, 0, 0, 0);
            Due.due("restore()", x.restore(), 1);
            int[] want = {3, 3, 2, 1, 1, 1, 21};
            for (int what = 0; what < want.length; what++) {
                Due.due("count(" + what + ") restored", x.count(what), want[what]);
            }
            Due.due("child(0, 0)", x.child(0, 0), 4);
            Due.due("child(0, 1)", x.child(0, 1), 7);
            Due.due("child(0, 2)", x.child(0, 2), 3);
            Due.due("was(0, 2)", x.was(0, 2), 1);
            Due.due("door(0, 1)", x.door(0, 1), 1);
            Due.due("where(0, 2)", x.where(0, 2), 3);
            Due.due("holds(0)", x.holds(0), 0);
            Due.due("LIARS", x.most(2), 2);
            Due.due("chance(5, 50)", x.chance(5, 50), 50);
        }
    }

    private static void keepsWhatIsNotInIt() {
        ItWasLikeThat x = Due.told("c000;");
        x.feed('r');
        x.row(0);
        Due.due("image()", x.image(), 0);
        x.feed('2');
        x.feed('2');
        x.row(0);
        x.can(9);
        Due.due("restore()", x.restore(), 0);
        Due.due("letters", x.count(7), 3);
        Due.due("the ROW", x.count(8), 2);
        Due.due("REFUSALS", x.count(12), 1);
        x.feed(';');
        Due.due("house()", x.house(), 1);
        Due.due("rooms", x.count(0), 2);
        Due.due("restore() behind a HOUSE", x.restore(), 0);
        Due.due("rooms", x.count(0), 3);
    }

    private static void isNotChangedByWhatComes() {
        ItWasLikeThat x = Due.told("d01;c000;");
        x.image();
        x.fact(0, 0, 1, 1);
        Due.tell(x, "t01111;d12;");
        x.deed(2, 3);
        x.image();
        Due.tell(x, "t02222;");
        x.unfact();
        Due.due("restore() of the later", x.restore(), 1);
        Due.due("was(0, 0)", x.was(0, 0), 1);
        Due.due("doors", x.count(3), 2);
        Due.due("deed", x.count(6), 23);
        Due.due("where(0, 0)", x.where(0, 0), 2);
        // What comes behind a restore leaves THE IMAGE as it was.
        x.fact(0, 1, 1, 1);
        x.chance(6, 77);
        Due.due("restore() again", x.restore(), 1);
        Due.due("where(0, 1)", x.where(0, 1), 7);
        Due.due("chance", x.chance(6, 1), 1);
    }

    private static void count() {
        ItWasLikeThat x = Due.told("r46;d01;d23;d12;c000;c100;b35;f000+;f100-;");
        x.says(0, 0, 0, 0);
        x.says(0, 0, 0, 0);
        x.says(0, 0, 0, 0);
        x.feed('x');
        x.row(1);
        x.row(1);
        // Refused once with -1, twice with -2 and so on.
        x.was(9, 9);
        x.can(5);
        x.can(5);
        for (int i = 0; i < 3; i++) {
            x.fact(0, 0, 1, 1);
        }
        for (int i = 0; i < 4; i++) {
            x.tale(-1, 0);
        }
        for (int i = 0; i < 6; i++) {
            x.lasts(5, 0);
        }
        int[] want = {4, 6, 2, 3, 2, 3, 35, 1, 2, 0, -9, 1, 2, 3, 4, 0, 6, -9};
        for (int what = 0; what < want.length; what++) {
            Due.due("count(" + what + ")", x.count(what), want[what]);
        }
        Due.due("count(-1)", x.count(-1), -9);
        Due.due("count(greatest)", x.count(Integer.MAX_VALUE), -9);
        Due.due("count(least)", x.count(Integer.MIN_VALUE), -9);
        Due.due("another what is no REFUSAL", x.count(12), 2);
    }
}
