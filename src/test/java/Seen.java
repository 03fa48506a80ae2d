import java.util.ArrayList;
import java.util.List;

/** All that can be seen of an object, in some 250 calls; nothing of it is as it was then. */
final class Seen {
    private final ItWasLikeThat x;
    private final List<String> answers = new ArrayList<>();

    private Seen(ItWasLikeThat x) {
        this.x = x;
    }

    static List<String> of(ItWasLikeThat x) {
        Seen s = new Seen(x);
        s.now("");
        s.letters();
        s.row();
        s.add("restore()", x.restore());
        s.now(" restored");
        return s.answers;
    }

    private void add(String call, long answer) {
        answers.add(call + " is " + answer);
    }

    private void now(String when) {
        for (int what = 0; what < 10; what++) {
            add("count(" + what + ")" + when, x.count(what));
        }
        int children = x.count(2);
        int minutes = x.count(1);
        for (int c = 0; c < children; c++) {
            child(c, minutes, when);
        }
        for (int one = 0; one < 4; one++) {
            for (int other = one + 1; other < 4; other++) {
                add("door(" + one + ", " + other + ")" + when, x.door(one, other));
            }
        }
        int sayings = x.count(5);
        for (int s = 0; s < sayings; s++) {
            add("holds(" + s + ")" + when, x.holds(s));
        }
        for (int what = 0; what < 4; what++) {
            add("most(" + what + ")" + when, x.most(what));
        }
        for (int culprit = 4; culprit <= 6; culprit++) {
            add("who(" + culprit + ", 0)" + when, x.who(culprit, 0));
            add("who(" + culprit + ", 1)" + when, x.who(culprit, 1));
        }
    }

    private void child(int c, int minutes, String when) {
        for (int what = 0; what < 6; what++) {
            add("child(" + c + ", " + what + ")" + when, x.child(c, what));
        }
        add("ways(" + c + ", 0)" + when, x.ways(c, 0));
        add("ways(" + c + ", 1)" + when, x.ways(c, 1));
        for (int m = 0; m < minutes; m++) {
            add("was(" + c + ", " + m + ")" + when, x.was(c, m));
            add("where(" + c + ", " + m + ")" + when, x.where(c, m));
        }
    }

    /** What the letters are is seen by what comes of them. */
    private void letters() {
        add("feed(';')", x.feed(';'));
        add("house()", x.house());
        for (int what = 0; what < 8; what++) {
            add("count(" + what + ") behind house()", x.count(what));
        }
        int last = x.count(2) - 1;
        for (int what = 0; what < 3; what++) {
            add("child(last, " + what + ") behind house()", x.child(last, what));
        }
    }

    private void row() {
        add("row(2)", x.row(2));
        add("judge()", x.judge());
        add("count(8) behind judge()", x.count(8));
    }
}
