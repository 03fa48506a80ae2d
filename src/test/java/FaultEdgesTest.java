/** Promises 2 and 3: letters, HOUSES and FAULTS at their edges. */
public final class FaultEdgesTest {
    private static final String TEXT = "r44;d01;c000;t00000;b00;f000+;f011-;";
    /** 9 a digit, * a "+" or a "-"; all else stands for itself. */
    private static final String FORM = "r99;d99;c999;t99999;b99;f999*;f999*;";

    public static void main(String[] args) {
        lettersTaken();
        ninetySixLetters();
        placesInNinetySix();
        atLeastOneStatement();
        whereSomethingLacks();
        eachLetterAtEachPlace();
        oneLetterMore();
        digitsOfT();
        rThatIsNotAsItMustBe();
        kindOneAheadOfKindTwo();
        eachDigitInItsRange();
        oneRoomTwice();
        noDoorOnTheWay();
        factsWithoutWay();
        doorsWithoutWay();
        noRoomForChildren();
        noRoomForFacts();
        firstStatement();
        behindAllAhead();
        withOneNothing();
        lettersAreNoMore();
        sayingsAreNone();
        Due.end();
    }

    private static void lettersTaken() {
        Due.about("feed: A letter comes: how many there are. -4; -6 (255; 96, too).");
        ItWasLikeThat x = new ItWasLikeThat();
        Due.due("feed(-1)", x.feed(-1), -4);
        Due.due("feed(256)", x.feed(256), -6);
        Due.due("count(7)", x.count(7), 0);
        Due.due("feed(0)", x.feed(0), 1);
        Due.due("feed(255)", x.feed(255), 2);
        Due.due("count(7)", x.count(7), 2);
    }

    private static void ninetySixLetters() {
        Due.about("A HOUSE is told in letters, one by one (96 at most)");
        ItWasLikeThat x = new ItWasLikeThat();
        String text = "r24;d01;" + "b10;".repeat(22);
        for (int i = 0; i < 96; i++) {
            Due.due("feed, the " + (i + 1) + "th", x.feed(text.charAt(i)), i + 1);
        }
        Due.due("feed('b'), the 97th", x.feed('b'), -6);
        Due.due("feed(255), the 97th", x.feed(255), -6);
        Due.due("feed(256), the 97th", x.feed(256), -6);
        Due.due("feed(-1), the 97th", x.feed(-1), -4);
        Due.due("count(7)", x.count(7), 96);
        Due.due("house()", x.house(), 24);
        Due.due("count(6)", x.count(6), 10);
        Due.due("count(7)", x.count(7), 0);
        Due.due("count(16)", x.count(16), 3);
        Due.due("count(14)", x.count(14), 1);
        Due.due("feed, the first anew", x.feed('r'), 1);
    }

    private static void placesInNinetySix() {
        Due.about("-1000 less the place; -2000 less the place (of 96 letters)");
        Due.tells("d01;".repeat(23) + "d00;", -2092);
        Due.tells("d01;".repeat(23) + "d01d", -1095);
        Due.tells("d01;".repeat(23) + "c000", -1096);
        Due.tells("d01;".repeat(23) + "d01", -1095);
        Due.tells("d01;".repeat(24), 24);
        Due.tells("d01;".repeat(22) + "f000+;" + "b1", -1096);
    }

    private static void atLeastOneStatement() {
        Due.about("At least one STATEMENT.");
        Due.tells("", -1000);
        Due.tells(";", -1000);
        Due.tells("b00;", 1);
        ItWasLikeThat x = Due.told("c000;");
        Due.due("house() of none, behind another", x.house(), -1000);
        Due.due("count(2)", x.count(2), 1);
    }

    private static void whereSomethingLacks() {
        Due.about("the end, if something lacks");
        int statements = 0;
        for (int cut = 0; cut <= TEXT.length(); cut++) {
            boolean isWhole = cut > 0 && TEXT.charAt(cut - 1) == ';';
            statements += isWhole ? 1 : 0;
            Due.tells(TEXT.substring(0, cut), isWhole ? statements : -1000 - cut);
        }
        Due.due("STATEMENTS in all", statements, 7);
    }

    private static boolean fits(char form, int letter) {
        switch (form) {
            case '9':
                return letter >= '0' && letter <= '9';
            case '*':
                return letter == '+' || letter == '-';
            case ';':
                return letter == ';';
            default:
                return letter < 128 && "rdctbf".indexOf(letter) >= 0;
        }
    }

    private static void eachLetterAtEachPlace() {
        Due.about("FAULT: kind 1 the place of the first letter with which no HOUSE can go on");
        for (int place = 0; place < TEXT.length(); place++) {
            for (int letter = 0; letter <= 255; letter++) {
                if (!fits(FORM.charAt(place), letter)) {
                    String text = TEXT.substring(0, place) + (char) letter + TEXT.substring(place + 1);
                    Due.tells(text, -1000 - place);
                }
            }
        }
    }

    private static void oneLetterMore() {
        Due.about("the place of the first letter with which no HOUSE can go on (one too many)");
        // One letter more ahead of each ";" is at the place where the ";" was; behind each nothing begins so.
        for (int place = 0; place < TEXT.length(); place++) {
            if (TEXT.charAt(place) == ';') {
                Due.tells(TEXT.substring(0, place) + "0" + TEXT.substring(place), -1000 - place);
                Due.tells(TEXT.substring(0, place + 1) + ";" + TEXT.substring(place + 1), -1001 - place);
                Due.tells(TEXT.substring(0, place + 1) + "0" + TEXT.substring(place + 1), -1001 - place);
            }
        }
    }

    private static void digitsOfT() {
        Due.about("\"t\" has as many digits as there are MINUTES then, and 1");
        for (int minutes = 2; minutes <= 6; minutes++) {
            for (int digits = 0; digits <= 9; digits++) {
                String text = "r2" + minutes + ";c000;t" + "0".repeat(digits) + ";";
                int due = 3;
                if (digits < minutes + 1) {
                    due = -1010 - digits;
                } else if (digits > minutes + 1) {
                    due = -1010 - minutes - 1;
                }
                Due.tells(text, due);
            }
        }
        Due.about("How many digits \"t\" has goes by the MINUTES there are as it is come to");
        Due.tells("r22;c000;t000;r26;c000;t0000000;r23;c000;t0000;", 9);
        Due.tells("r22;c000;t000;r26;c000;t000;", -1027);
        Due.tells("c000;t00000;r22;c000;t000;", 5);
        Due.tells("c000;t000;r22;", -1009);
        ItWasLikeThat x = Due.told("r26;c000;");
        Due.tells(x, "t00000;", -1006);
        Due.tells(x, "t0000000;", 1);
    }

    private static void rThatIsNotAsItMustBe() {
        Due.about("an \"r\" that is not as it must be changes none");
        for (int rooms = 0; rooms <= 9; rooms++) {
            for (int minutes = 0; minutes <= 9; minutes++) {
                boolean is = rooms >= 2 && rooms <= 4 && minutes >= 2 && minutes <= 6;
                String r = "r" + rooms + minutes + ";";
                int then = is ? minutes : 4;
                Due.tells(r, is ? 1 : -2000);
                Due.tells(r + "c000;t" + "0".repeat(then + 1) + ";", is ? 3 : -2000);
                Due.tells(r + "c000;t" + "0".repeat(then) + ";", -1010 - then);
                Due.tells(r + "c000;t" + "0".repeat(then + 2) + ";", -1011 - then);
            }
        }
    }

    private static void kindOneAheadOfKindTwo() {
        Due.about("else kind 2");
        Due.tells("d00;", -2000);
        Due.tells("d00;d", -1005);
        Due.tells("d00;x", -1004);
        Due.tells("d00;c999;t0000x;", -1014);
        Due.tells("d00;c999;t00000;", -2000);
        Due.tells("b00;d00;b9", -1010);
        Due.tells("b00;d00;b99;", -2004);
    }

    /** In a HOUSE of 3 ROOMS, 4 MINUTES, 2 CHILDREN each digit is tried; those up to the last are taken. */
    private static void eachDigitInItsRange() {
        Due.about("a number out of range; no such CHILD");
        // A "." stands for the digit that is tried, what is behind the ":" for the greatest that is taken.
        String[] tried = {
            "c.00;:5", "c0.0;:9", "c00.;:3", "b.0;:2", "b0.;:3", "f.00+;:1", "f0.0+;:3", "f00.+;:2",
            "f.00-;:1", "f0.0-;:3", "f00.-;:2", "t.0000;:1", "t0.000;:2", "t00..0;:2", "t00...;:2", "t0....;:2",
            "d.2;:1", "d2.;:1"
        };
        for (String one : tried) {
            String text = one.substring(0, one.indexOf(':'));
            int greatest = one.charAt(one.length() - 1) - '0';
            for (int digit = 0; digit <= 9; digit++) {
                // Other digits of "t" that go along with it are next to it by a DOOR.
                ItWasLikeThat x = Due.told("d01;d12;d02;c000;c000;");
                Due.tells(x, text.replace('.', (char) ('0' + digit)), digit <= greatest ? 1 : -2000);
                Due.nothingRefused(x);
            }
        }
    }

    private static void oneRoomTwice() {
        Due.about("one ROOM twice");
        for (int one = 0; one <= 9; one++) {
            for (int other = 0; other <= 9; other++) {
                boolean is = one < 4 && other < 4 && one != other;
                Due.tells("r42;d" + one + other + ";", is ? 2 : -2004);
            }
        }
    }

    private static void noDoorOnTheWay() {
        Due.about("no DOOR on the way of \"t\"");
        // ROOMS in a row: from each the one next to it and itself.
        for (int from = 0; from < 4; from++) {
            for (int to = 0; to < 4; to++) {
                boolean is = Math.abs(from - to) <= 1;
                for (int minute = 0; minute < 3; minute++) {
                    StringBuilder way = new StringBuilder();
                    for (int m = 0; m < 4; m++) {
                        way.append(m <= minute ? from : to);
                    }
                    Due.tells("r44;d01;d12;d23;c000;t0" + way + ";", is ? 6 : -2021);
                }
            }
        }
        Due.tells("c000;d01;d01;t00001;", -2013);
        Due.tells("c000;t00000;d01;t00101;", 4);
        Due.about("a FACT need not be as it TRULY was; a DOOR less does not touch where one TRULY was");
        ItWasLikeThat x = Due.tells("c000;d01;t00001;d01;f031-;", 5);
        Due.due("was(0, 3)", x.was(0, 3), 1);
    }

    private static void factsWithoutWay() {
        Due.about("a FACT by which one has no WAY");
        Due.tells("r22;c000;f000-;f001-;", -2015);
        Due.tells("r22;c000;f000-;f010-;f011-;", -2021);
        Due.tells("r22;c000;f000+;f000-;", -2015);
        Due.tells("r22;c000;f000+;f000+;", 4);
        Due.tells("r22;c000;f000+;f011+;", -2015);
        Due.tells("r22;d01;c000;f000+;f011+;", 5);
        Due.tells("r22;c000;c000;f000+;f111+;", 5);
        // Two ROOMS by DOORS in one MINUTE are too far, in two they are not.
        Due.tells("r33;d01;d12;c000;f000+;f012+;", -2023);
        Due.tells("r33;d01;d12;c000;f000+;f022+;", 6);
        Due.tells("r33;d01;d12;c000;f000+;f022+;f011-;", -2029);
    }

    private static void doorsWithoutWay() {
        Due.about("a DOOR (or none) by which one has no WAY");
        ItWasLikeThat x = Due.told("r22;d01;c000;f000+;f011+;");
        Due.tells(x, "d10;", -2000);
        Due.due("door(0, 1)", x.door(0, 1), 1);
        Due.due("count(3)", x.count(3), 1);
        x.unfact();
        Due.tells(x, "d10;", 1);
        Due.due("door(0, 1)", x.door(0, 1), 0);
        // The last of four CHILDREN is looked at, too; and a DOOR that is of no matter may go.
        x = Due.told("r32;d01;d02;c000;c000;c000;c000;f300+;f311+;");
        Due.tells(x, "d02;", 1);
        Due.tells(x, "d01;", -2000);
        Due.tells(x, "d02;d01;", -2004);
        // By another way round it may go.
        x = Due.told("r33;d01;d12;d02;c000;f000+;f021+;");
        Due.tells(x, "d01;", 1);
        Due.tells(x, "d12;", -2000);
        Due.tells(x, "d01;d12;", 2);
    }

    private static void noRoomForChildren() {
        Due.about("no room (CHILDREN 0 .. 3)");
        Due.tells("c000;".repeat(4), 4);
        Due.tells("c000;".repeat(5), -2020);
        Due.tells("c000;".repeat(4) + "r22;" + "c000;".repeat(4), 9);
        Due.tells("c000;".repeat(4) + "r22;" + "c000;".repeat(5), -2044);
        ItWasLikeThat x = Due.told("c000;c000;c000;");
        Due.tells(x, "c000;c000;", -2005);
        Due.due("count(2)", x.count(2), 3);
        Due.tells(x, "c000;", 1);
        Due.due("count(2)", x.count(2), 4);
    }

    private static void noRoomForFacts() {
        Due.about("no room (FACTS 16 at most)");
        Due.tells("c000;" + "f001-;".repeat(15), 16);
        ItWasLikeThat x = Due.told("c000;" + "f001-;".repeat(14));
        Due.tells(x, "f001-;f001-;f001-;", -2012);
        Due.due("count(4)", x.count(4), 14);
        Due.tells(x, "f001-;f001-;", 2);
        Due.due("count(4)", x.count(4), 16);
        Due.tells(x, "f001-;", -2000);
        Due.tells(x, "r22;c000;f001-;", 3);
        Due.due("count(4) behind r", x.count(4), 1);
        Due.due("unfact()", x.unfact(), 0);
        Due.due("ways(0, 0)", x.ways(0, 0), 2);
    }

    private static void firstStatement() {
        Due.about("kind 2 the place of the first letter of the first STATEMENT that is not as it must be");
        String[] wrong = {"r55;", "d00;", "c600;", "t10000;", "b30;", "f100+;"};
        for (String one : wrong) {
            Due.tells(one, -2000);
            Due.tells("c000;" + one, -2005);
            Due.tells("c000;d01;" + one + one, -2009);
            Due.tells("c000;d01;t00110;" + one + "b00;", -2016);
        }
    }

    private static void behindAllAhead() {
        Due.about("that, behind all ahead of it in the text, is not as it must be");
        Due.tells("b23;r22;b11;", 3);
        Due.tells("r22;b23;", -2004);
        Due.tells("r22;b20;", -2004);
        Due.tells("r46;b35;", 2);
        Due.tells("c000;r34;f000+;", -2009);
        Due.tells("c000;r34;t00000;", -2009);
        Due.tells("f000+;c000;", -2000);
        Due.tells("c000;f000+;f001+;", -2011);
        Due.tells("c000;f000+;r34;c000;f001+;", 5);
        Due.tells("t00000;c000;", -2000);
        Due.tells("d01;r34;c000;t00001;", -2013);
        Due.tells("d03;r44;", -2000);
        Due.tells("r44;d03;r34;d03;", -2012);
    }

    private static void withOneNothing() {
        Due.about("Without FAULT all of it comes, with one nothing.");
        String[] faults = {"b90;", "d11;", "x", "d0"};
        for (String fault : faults) {
            for (String begin : new String[] {"r46;d03;c473;b35;", "d12;c112;t12222;b23;f122-;"}) {
                ItWasLikeThat x = Due.told("d01;c252;t00110;b11;f022-;");
                x.chance(4, 7);
                x.says(0, 0, 1, 1);
                int answer = Due.tell(x, begin + fault);
                int at = begin.length() + (fault.equals("d0") ? 2 : 0);
                Due.due("house() of " + begin + fault, answer, -at - (fault.endsWith(";") ? 2000 : 1000));
                Due.counts(x, 3, 4, 1, 1, 1, 1, 11, 0, 0, 0);
                Due.nothingRefused(x);
                int[] child = {2, 5, 2, 0, 3, 1};
                for (int what = 0; what < 6; what++) {
                    Due.due("child(0, " + what + ")", x.child(0, what), child[what]);
                }
                Due.due("was(0, 2)", x.was(0, 2), 1);
                Due.due("door(0, 1)", x.door(0, 1), 1);
                Due.due("door(1, 2)", x.door(1, 2), 0);
                Due.due("where(0, 2)", x.where(0, 2), 3);
                Due.due("chance(4, 7)", x.chance(4, 7), 7);
                Due.due("holds(0)", x.holds(0), 8);
            }
        }
    }

    private static void lettersAreNoMore() {
        Due.about("The letters, which are no more then (with a FAULT neither)");
        for (String text : new String[] {"b00;", "d00;", "x", "b00", "", "d01;".repeat(24)}) {
            ItWasLikeThat x = new ItWasLikeThat();
            Due.tell(x, text);
            Due.due("count(7) behind " + text, x.count(7), 0);
            Due.tells(x, "b11;", 1);
            Due.due("count(6) behind " + text, x.count(6), 11);
            Due.nothingRefused(x);
        }
    }

    private static void sayingsAreNone() {
        Due.about("SAYINGS are none then, if there is no FAULT.");
        ItWasLikeThat x = Due.told("c000;");
        for (int i = 0; i < 8; i++) {
            x.says(0, 0, 0, 0);
        }
        Due.tells(x, "", -1000);
        Due.tells(x, "b9", -1002);
        Due.tells(x, "b99;", -2000);
        Due.due("count(5)", x.count(5), 8);
        Due.due("says, the ninth", x.says(0, 0, 0, 0), -6);
        Due.tells(x, "b00;", 1);
        Due.due("count(5)", x.count(5), 0);
        Due.due("says, the first anew", x.says(0, 0, 0, 0), 0);
    }
}
