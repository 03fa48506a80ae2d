/** The least and the greatest of each number under "Terms", and what is at first. */
public final class TermsTest {
    public static void main(String[] args) {
        rooms();
        minutes();
        doors();
        children();
        kinds();
        figures();
        ties();
        tiesNotThere();
        skill();
        whereTheyTrulyWere();
        deed();
        facts();
        ways();
        there();
        Due.end();
    }

    private static void rooms() {
        Due.about("ROOMS 0 .. (2 .. 4 of them; 3 at first)");
        ItWasLikeThat x = new ItWasLikeThat();
        Due.due("count(0)", x.count(0), 3);
        Due.due("door(0, 2)", x.door(0, 2), 0);
        Due.due("door(0, 3)", x.door(0, 3), -1);
        for (int rooms = 0; rooms <= 9; rooms++) {
            boolean taken = rooms >= 2 && rooms <= 4;
            int before = x.count(0);
            Due.tells(x, "r" + rooms + "4;", taken ? 1 : -2000);
            Due.due("count(0) behind r" + rooms + "4;", x.count(0), taken ? rooms : before);
            Due.due("deed(last, 0)", x.deed(x.count(0) - 1, 0), 0);
            Due.due("deed(one behind the last, 0)", x.deed(x.count(0), 0), -1);
            x.deed(0, 0);
        }
    }

    private static void minutes() {
        Due.about("MINUTES 0 .. (2 .. 6 of them; 4 at first)");
        ItWasLikeThat x = new ItWasLikeThat();
        Due.due("count(1)", x.count(1), 4);
        Due.due("deed(0, 3)", x.deed(0, 3), 0);
        Due.due("deed(0, 4)", x.deed(0, 4), -1);
        x.deed(0, 0);
        for (int minutes = 0; minutes <= 9; minutes++) {
            boolean taken = minutes >= 2 && minutes <= 6;
            int before = x.count(1);
            Due.tells(x, "r3" + minutes + ";", taken ? 1 : -2000);
            Due.due("count(1) behind r3" + minutes + ";", x.count(1), taken ? minutes : before);
            Due.due("deed(0, last)", x.deed(0, x.count(1) - 1), 0);
            Due.due("deed(0, one behind the last)", x.deed(0, x.count(1)), -1);
            x.deed(0, 0);
        }
    }

    private static void doors() {
        Due.about("DOORS between two of them (none at first)");
        ItWasLikeThat x = new ItWasLikeThat();
        Due.due("count(3)", x.count(3), 0);
        Due.tells(x, "r44;", 1);
        Due.due("count(3)", x.count(3), 0);
        int doors = 0;
        for (int one = 0; one < 4; one++) {
            for (int other = one + 1; other < 4; other++) {
                Due.due("door(" + one + ", " + other + ")", x.door(one, other), 0);
                Due.tells(x, "d" + one + other + ";", 1);
                doors++;
                Due.due("count(3)", x.count(3), doors);
                Due.due("door(" + one + ", " + other + ")", x.door(one, other), 1);
                Due.due("door(" + other + ", " + one + ")", x.door(other, one), 1);
            }
        }
        Due.about("\"d\" two ROOMS (a digit each): a DOOR more (or no more, told again)");
        Due.tells(x, "d10;d02;d30;d21;d13;d32;", 6);
        Due.due("count(3)", x.count(3), 0);
        Due.tells(x, "d01;d01;d10;", 3);
        Due.due("count(3)", x.count(3), 1);
    }

    private static void children() {
        Due.about("CHILDREN 0 .. 3 as they come");
        ItWasLikeThat x = new ItWasLikeThat();
        for (int child = 0; child < 4; child++) {
            Due.due("child(" + child + ", 0)", x.child(child, 0), -1);
            Due.tells(x, "c" + child + child + "0;", 1);
            Due.due("child(" + child + ", 0)", x.child(child, 0), child);
            Due.due("child(" + child + ", 1)", x.child(child, 1), child);
            Due.due("count(2)", x.count(2), child + 1);
        }
        Due.tells(x, "c000;", -2000);
        Due.due("count(2)", x.count(2), 4);
        Due.due("child(4, 0)", x.child(4, 0), -1);
        Due.due("child(3, 0)", x.child(3, 0), 3);
    }

    private static void kinds() {
        Due.about("KINDS: 0 CHILD; 1 SMALL; 2 LOYAL; 3 BOUGHT; 4 BOLD; 5 SILENT");
        int[] guilt = {5, 6, 3, 3, 8, 6};
        int[] slips = {2, 6, 1, 1, 3, 3};
        for (int kind = 0; kind <= 9; kind++) {
            ItWasLikeThat x = Due.tells("c" + kind + "00;", kind <= 5 ? 1 : -2000);
            Due.due("child(0, 0) of " + kind, x.child(0, 0), kind <= 5 ? kind : -1);
            if (kind <= 5) {
                Due.due("child(0, 4) of " + kind, x.child(0, 4), guilt[kind]);
                Due.due("child(0, 5) of " + kind, x.child(0, 5), slips[kind]);
            }
        }
    }

    private static void figures() {
        Due.about("a FIGURE (0 .. 9); BOUGHT a LOYAL's and half of FIGURE, cut");
        int[] bought = {1, 1, 2, 2, 3, 3, 4, 4, 5, 5};
        int[] others = {2, 6, 1, 0, 3, 3};
        for (int figure = 0; figure <= 9; figure++) {
            for (int kind = 0; kind <= 5; kind++) {
                String text = "c" + kind + figure + "0;";
                ItWasLikeThat x = Due.tells(text, 1);
                Due.due("child(0, 1) of " + text, x.child(0, 1), figure);
                Due.due("child(0, 5) of " + text, x.child(0, 5), kind == 3 ? bought[figure] : others[kind]);
            }
        }
    }

    private static void ties() {
        Due.about("a TIE to a CHILD (0 .. 3; it need not be there; 0 at first)");
        for (int tie = 0; tie <= 9; tie++) {
            ItWasLikeThat x = Due.tells("c20" + tie + ";", tie <= 3 ? 1 : -2000);
            Due.due("child(0, 2) with TIE " + tie, x.child(0, 2), tie <= 3 ? tie : -1);
            Due.due("count(2) with TIE " + tie, x.count(2), tie <= 3 ? 1 : 0);
        }
    }

    /** As soon as the CHILD of its TIE comes, a LOYAL lies for it. */
    private static void tiesNotThere() {
        Due.about("a TIE to a CHILD (0 .. 3; it need not be there; 0 at first)");
        ItWasLikeThat x = Due.told("c202;c000;");
        Due.due("ask(0, 1, 0, 0)", x.ask(0, 1, 0, 0), 0);
        Due.due("ask(0, 2, 0, 0)", x.ask(0, 2, 0, 0), -1);
        Due.tells(x, "c000;c000;", 2);
        Due.due("ask(0, 1, 0, 0)", x.ask(0, 1, 0, 0), 0);
        Due.due("ask(0, 2, 0, 0)", x.ask(0, 2, 0, 0), 1);
        Due.due("ask(0, 3, 0, 0)", x.ask(0, 3, 0, 0), 0);
    }

    private static void skill() {
        Due.about("SKILL (0 .. 9; 0 at first)");
        ItWasLikeThat x = Due.told("r22;c000;c191;c292;c393;");
        for (int child = 0; child < 4; child++) {
            Due.due("child(" + child + ", 3)", x.child(child, 3), 0);
        }
        Due.due("count(9)", x.count(9), 0);
        x.learn(20, 1, 99);
        Due.about("LEARN: SKILLS together then, in mind");
        Due.due("count(9)", x.count(9), 0);
        Due.due("child(3, 3)", x.child(3, 3), 0);
        Due.due("child(3, 5)", x.child(3, 5), 5);
    }

    private static void whereTheyTrulyWere() {
        Due.about("Each TRULY was in a ROOM in each MINUTE (0 at first).");
        ItWasLikeThat x = Due.told("r46;c000;c000;t0333333;");
        for (int minute = 0; minute < 6; minute++) {
            Due.due("was(0, " + minute + ")", x.was(0, minute), 3);
            Due.due("was(1, " + minute + ")", x.was(1, minute), 0);
        }
        // Whoever comes behind an "r" has not been anywhere else.
        Due.tells(x, "r46;c000;", 2);
        for (int minute = 0; minute < 6; minute++) {
            Due.due("was(0, " + minute + ")", x.was(0, minute), 0);
        }
    }

    private static void deed() {
        Due.about("The DEED: a ROOM, a MINUTE (0, 0 at first).");
        ItWasLikeThat x = Due.told("c000;");
        Due.due("count(6)", x.count(6), 0);
        // It was THERE, as nobody went anywhere.
        Due.due("ask(0, 0, 0, 0)", x.ask(0, 0, 0, 0), 1);
        Due.due("ask(0, 0, 1, 0)", x.ask(0, 0, 1, 0), 0);
        Due.due("deed(2, 3)", x.deed(2, 3), 0);
        Due.due("deed(2, 3)", x.deed(2, 3), 23);
        Due.due("count(6)", x.count(6), 23);
        Due.tells(x, "r46;", 1);
        Due.due("count(6) behind r", x.count(6), 0);
        Due.due("deed(3, 5)", x.deed(3, 5), 0);
        Due.due("count(6)", x.count(6), 35);
    }

    private static void facts() {
        Due.about("FACTS (16 at most): of a CHILD, a MINUTE, a ROOM: it was there (1) or not (0).");
        ItWasLikeThat x = Due.told("r46;c000;c000;c000;c000;");
        Due.due("count(4)", x.count(4), 0);
        for (int i = 0; i < 16; i++) {
            Due.due("fact", x.fact(3, 5, i % 3, 0), i + 1);
        }
        Due.due("where(3, 5)", x.where(3, 5), 8);
        Due.due("where(3, 0) without DOORS", x.where(3, 0), 8);
        Due.due("where(2, 5)", x.where(2, 5), 15);
        Due.due("the 17th", x.fact(3, 5, 3, 1), -6);
        Due.due("count(4)", x.count(4), 16);
        for (int left = 15; left >= 0; left--) {
            Due.due("unfact()", x.unfact(), left);
        }
        Due.due("unfact() of none", x.unfact(), -3);
        Due.due("count(4)", x.count(4), 0);
        Due.due("where(3, 5)", x.where(3, 5), 15);
        // The last is no more, not the first.
        x.fact(0, 0, 1, 0);
        x.fact(0, 0, 2, 0);
        x.unfact();
        Due.due("where(0, 0)", x.where(0, 0), 13);
    }

    private static void ways() {
        Due.about("A WAY: a ROOM for each MINUTE, each the same as the one ahead or next to it by a DOOR");
        ItWasLikeThat x = Due.told("r33;d01;d12;c000;");
        x.fact(0, 0, 0, 1);
        Due.due("two DOORS in a MINUTE", x.fact(0, 1, 2, 1), -3);
        Due.due("two DOORS in two MINUTES", x.fact(0, 2, 2, 1), 2);
        Due.due("ways(0, 0)", x.ways(0, 0), 1);
        x = Due.told("r22;c000;");
        Due.due("ways, the fewest", x.ways(0, 0), 2);
        x.fact(0, 1, 0, 0);
        Due.due("ways, by a FACT", x.ways(0, 0), 1);
        Due.due("ways, none", x.fact(0, 0, 0, 1), -3);
        x = Due.told("r46;d01;d02;d03;d12;d13;d23;c000;");
        Due.due("ways, the most", x.ways(0, 0), 4096);
        Due.about("-3 it has no WAY then (of the CHILD of the FACT)");
        x = Due.told("c000;c000;f000+;");
        Due.due("fact(1, 3, 2, 1)", x.fact(1, 3, 2, 1), 2);
        Due.due("fact(0, 3, 2, 1)", x.fact(0, 3, 2, 1), -3);
        Due.due("fact(1, 0, 2, 0)", x.fact(1, 0, 2, 0), -3);
        Due.due("ways(0, 0)", x.ways(0, 0), 1);
        Due.due("ways(1, 0)", x.ways(1, 0), 1);
    }

    private static void there() {
        Due.about("THERE: a WAY on which it is in the ROOM of the DEED in its MINUTE.");
        ItWasLikeThat x = Due.told("r46;d01;d12;d23;c000;");
        // By a row of four ROOMS in six MINUTES: as many from the one end as from the other.
        for (int end = 0; end < 2; end++) {
            x.deed(end * 3, 0);
            Due.due("THERE at an end at first", x.ways(0, 1), 89);
            x.deed(end * 3, 5);
            Due.due("THERE at an end at last", x.ways(0, 1), 89);
        }
        x.deed(1, 0);
        Due.due("THERE in the middle at first", x.ways(0, 1), 144);
        x.deed(2, 5);
        Due.due("THERE in the middle at last", x.ways(0, 1), 144);
        Due.due("WAYS", x.ways(0, 0), 466);
    }
}
