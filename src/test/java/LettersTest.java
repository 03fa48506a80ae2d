/** Promises 2 (feed) and 3 (house). */
public final class LettersTest {
    public static void main(String[] args) {
        feed();
        fullLetters();
        faultsOfForm();
        howManyDigitsTHas();
        faultsOfStatements();
        factsAndDoorsWithoutWay();
        noMoreRoom();
        allComesOrNothing();
        eachStatementComes();
        rBeginsAnew();
        sayingsAreNone();
        Due.end();
    }

    private static void feed() {
        ItWasLikeThat x = new ItWasLikeThat();
        Due.due("feed(0)", x.feed(0), 1);
        Due.due("feed(255)", x.feed(255), 2);
        Due.refused(x, "feed(-1)", x.feed(-1), -4, 0);
        Due.refused(x, "feed(least)", x.feed(Integer.MIN_VALUE), -4, 1);
        Due.refused(x, "feed(256)", x.feed(256), -6, 0);
        Due.refused(x, "feed(greatest)", x.feed(Integer.MAX_VALUE), -6, 1);
        Due.due("count(7)", x.count(7), 2);
        Due.due("house()", x.house(), -1000);
        Due.due("count(7)", x.count(7), 0);
    }

    private static void fullLetters() {
        ItWasLikeThat x = new ItWasLikeThat();
        for (int i = 1; i <= 96; i++) {
            Due.due("feed", x.feed("d01;".charAt((i - 1) % 4)), i);
        }
        Due.refused(x, "feed, the 97th", x.feed('d'), -6, 0);
        Due.refused(x, "feed(-1) when full", x.feed(-1), -4, 0);
        Due.due("count(7)", x.count(7), 96);
        Due.due("house() of 96 letters", x.house(), 24);
        Due.due("count(3)", x.count(3), 0);
        Due.due("feed behind", x.feed('r'), 1);
    }

    private static void fault(String text, int want) {
        ItWasLikeThat x = new ItWasLikeThat();
        Due.due("house() of " + text, Due.tell(x, text), want);
        Due.due("letters behind " + text, x.count(7), 0);
        for (int what = 11; what <= 16; what++) {
            Due.due("count(" + what + ") behind " + text, x.count(what), 0);
        }
    }

    private static void faultsOfForm() {
        fault("", -1000);
        fault("x", -1000);
        fault(";", -1000);
        fault("R34;", -1000);
        fault("0", -1000);
        fault("r", -1001);
        fault("rx", -1001);
        fault("r3;", -1002);
        fault("r34", -1003);
        fault("r345", -1003);
        fault("r34;;", -1004);
        fault("r34;d", -1005);
        fault("d0/;", -1002);
        fault("d0:;", -1002);
        fault("c00;", -1003);
        fault("c0000;", -1004);
        fault("b0", -1002);
        fault("f000;", -1004);
        fault("f000*;", -1004);
        fault("f000+", -1005);
        fault("f000-+", -1005);
        fault("f00+;", -1003);
        fault("t", -1001);
        fault("t00000", -1006);
        // Kind 1 is looked for first in all the text.
        fault("d00;x", -1004);
        fault("r99;c999;r3", -1011);
        fault("c000;" + "x", -1005);
    }

    private static void howManyDigitsTHas() {
        fault("c000;t00000;", 2);
        fault("c000;t0000;", -1010);
        fault("c000;t000000;", -1011);
        fault("r26;c000;t0000000;", 3);
        fault("r26;c000;t00000;", -1015);
        fault("r22;c000;t000;", 3);
        // An "r" that is not as it must be changes none.
        fault("r37;t00000;", -2000);
        fault("r37;t00000000;", -1010);
        fault("r56;t00000;", -2000);
        fault("r16;t0000000;", -1010);
        fault("r31;t000;", -1008);
        // The MINUTES go on from one HOUSE to the next.
        ItWasLikeThat x = Due.told("r22;c000;");
        Due.due("t of two MINUTES", Due.tell(x, "t011;"), 1);
        Due.due("t of four MINUTES", Due.tell(x, "t00000;"), -1004);
        // With a FAULT they stay as they were.
        Due.due("r with a FAULT behind", Due.tell(x, "r36;d00;"), -2004);
        Due.due("t of two MINUTES still", Due.tell(x, "t000;"), 1);
    }

    private static void faultsOfStatements() {
        fault("r14;", -2000);
        fault("r54;", -2000);
        fault("r31;", -2000);
        fault("r37;", -2000);
        fault("r00;", -2000);
        fault("r22;", 1);
        fault("r46;", 1);
        fault("d00;", -2000);
        fault("d22;", -2000);
        fault("d03;", -2000);
        fault("d30;", -2000);
        fault("d02;d01;d21;d33;", -2012);
        fault("r44;d03;", 2);
        fault("c600;", -2000);
        fault("c900;", -2000);
        fault("c004;", -2000);
        fault("c593;", 1);
        fault("t00000;", -2000);
        fault("c000;t10000;", -2005);
        fault("c000;t00003;", -2005);
        fault("c000;t03000;", -2005);
        fault("c000;t00010;", -2005);
        fault("d01;c000;t00010;", 3);
        fault("d01;c000;t00120;", -2009);
        fault("d01;c000;t00200;", -2009);
        fault("d01;c000;t02222;", 3);
        fault("b30;", -2000);
        fault("b04;", -2000);
        fault("b23;", 1);
        fault("f000+;", -2000);
        fault("c000;f100+;", -2005);
        fault("c000;f040+;", -2005);
        fault("c000;f003+;", -2005);
        fault("c000;f003-;", -2005);
        fault("c000;f032-;", 2);
        // The first that is not as it must be, behind all ahead of it.
        fault("b00;d00;c900;", -2004);
        fault("r24;b20;", -2004);
        fault("b20;r24;", 2);
    }

    private static void factsAndDoorsWithoutWay() {
        fault("c000;f000-;f001-;f002-;", -2017);
        fault("c000;f000+;f001+;", -2011);
        fault("c000;f000+;f011+;", -2011);
        fault("d01;c000;f000+;f011+;", 4);
        fault("d01;c000;f000+;f011+;d10;", -2021);
        fault("d01;d02;c000;f000+;f011+;d20;", 6);
        fault("c000;c000;f100+;f111+;", -2016);
        fault("c000;c000;f000+;f111+;", 4);
    }

    private static void noMoreRoom() {
        fault("c000;c000;c000;c000;", 4);
        fault("c000;c000;c000;c000;c000;", -2020);
        fault("c000;c000;c000;c000;r34;c000;", 6);
        ItWasLikeThat x = Due.told("c000;" + "f000+;".repeat(15));
        Due.due("count(4)", x.count(4), 15);
        Due.due("two FACTS more", Due.tell(x, "f000+;f000+;"), -2006);
        Due.due("count(4)", x.count(4), 15);
        Due.due("one FACT more", Due.tell(x, "f000+;"), 1);
        Due.due("count(4)", x.count(4), 16);
        Due.due("one above sixteen", Due.tell(x, "f000+;"), -2000);
    }

    private static void allComesOrNothing() {
        ItWasLikeThat x = Due.told("r33;d01;c211;t0001;b11;f011-;");
        x.says(0, 0, 0, 0);
        Due.due("a FAULT at the end", Due.tell(x, "d12;c000;t0000;b22;f000+;b90;"), -2025);
        Due.due("doors", x.count(3), 1);
        Due.due("children", x.count(2), 1);
        Due.due("deed", x.count(6), 11);
        Due.due("facts", x.count(4), 1);
        Due.due("was(0, 2)", x.was(0, 2), 1);
        Due.due("sayings", x.count(5), 1);
        Due.due("a FAULT behind r", Due.tell(x, "r46;c000;x"), -1009);
        Due.due("rooms", x.count(0), 3);
        Due.due("minutes", x.count(1), 3);
        Due.due("children", x.count(2), 1);
    }

    private static void eachStatementComes() {
        ItWasLikeThat x = new ItWasLikeThat();
        Due.due("house()", Due.tell(x, "r45;d03;d30;d03;d12;c473;c550;t012112;b34;f130-;f040+;"), 11);
        Due.due("rooms", x.count(0), 4);
        Due.due("minutes", x.count(1), 5);
        Due.due("doors", x.count(3), 2);
        Due.due("door(3, 0)", x.door(3, 0), 1);
        Due.due("door(1, 2)", x.door(1, 2), 1);
        Due.due("door(0, 1)", x.door(0, 1), 0);
        Due.due("children", x.count(2), 2);
        Due.due("deed", x.count(6), 34);
        Due.due("facts", x.count(4), 2);
        int[] was = {1, 2, 1, 1, 2};
        for (int m = 0; m < 5; m++) {
            Due.due("was(0, " + m + ")", x.was(0, m), was[m]);
            Due.due("was(1, " + m + ")", x.was(1, m), 0);
        }
        Due.due("where(1, 3)", x.where(1, 3), 14);
        Due.due("where(0, 4)", x.where(0, 4), 1);
    }

    private static void rBeginsAnew() {
        ItWasLikeThat x = Due.told("r33;d01;d12;c000;c000;t0112;t1221;b22;f022+;");
        x.chance(4, 9);
        Due.due("r", Due.tell(x, "r44;"), 1);
        int[] want = {4, 4, 0, 0, 0, 0, 0};
        for (int what = 0; what < want.length; what++) {
            Due.due("count(" + what + ") behind r", x.count(what), want[what]);
        }
        Due.due("CHANCES stay", x.chance(4, 2), 9);
        Due.due("CHILDREN anew", Due.tell(x, "c000;c000;"), 2);
        for (int c = 0; c < 2; c++) {
            for (int m = 0; m < 4; m++) {
                Due.due("was(" + c + ", " + m + ")", x.was(c, m), 0);
            }
        }
        for (int r = 1; r < 4; r++) {
            Due.due("door(" + (r - 1) + ", " + r + ")", x.door(r - 1, r), 0);
            Due.due("door(" + r + ", " + (r - 1) + ")", x.door(r, r - 1), 0);
        }
    }

    private static void sayingsAreNone() {
        ItWasLikeThat x = Due.told("c000;");
        x.says(0, 0, 0, 0);
        Due.due("FAULT", Due.tell(x, "d00;"), -2000);
        Due.due("sayings", x.count(5), 1);
        Due.due("no letters", x.house(), -1000);
        Due.due("sayings", x.count(5), 1);
        Due.due("no FAULT", Due.tell(x, "d01;"), 1);
        Due.due("sayings", x.count(5), 0);
    }
}
