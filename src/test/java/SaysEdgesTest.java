/** Promises 16 to 22: what one SAYS, SAYINGS and FIRST at their edges. */
public final class SaysEdgesTest {
    public static void main(String[] args) {
        theNextRoom();
        onlyInTheMinuteOfTheDeed();
        figureAboveFour();
        evenFigures();
        ofItselfAlways();
        nothing();
        caught();
        caughtByWhatIsNotTruly();
        eightSayings();
        noSayings();
        setsOfSayings();
        theLeastBits();
        firstOfSeveral();
        firstInParts();
        Due.end();
    }

    private static void asks(ItWasLikeThat x, int speaker, int child, int minute, int want) {
        String call = "ask(" + speaker + ", " + child + ", " + minute + ", ";
        Due.due(call + "0)", x.ask(speaker, child, minute, 0), want);
        Due.due(call + "1)", x.ask(speaker, child, minute, 1), want == x.was(child, minute) ? 1 : 0);
    }

    private static void theNextRoom() {
        Due.about("of itself in the MINUTE of the DEED, if it was THERE, the next ROOM (0 behind the last)");
        for (int rooms = 2; rooms <= 4; rooms++) {
            for (int room = 0; room < rooms; room++) {
                ItWasLikeThat x = Due.told("r" + rooms + "2;c000;c200;t0" + room + room + ";b" + room + "1;");
                int next = room == rooms - 1 ? 0 : room + 1;
                asks(x, 0, 0, 1, next);
                asks(x, 1, 0, 1, next);
                asks(x, 0, 0, 0, room);
                asks(x, 1, 0, 0, room);
            }
        }
    }

    private static void onlyInTheMinuteOfTheDeed() {
        Due.about("of itself in the MINUTE of the DEED, if it was THERE");
        ItWasLikeThat x = Due.told("r46;d01;d12;d23;c000;t0000123;");
        int[] was = {0, 0, 0, 1, 2, 3};
        for (int room = 0; room < 4; room++) {
            for (int deed = 0; deed < 6; deed++) {
                x.deed(room, deed);
                for (int minute = 0; minute < 6; minute++) {
                    boolean lies = minute == deed && was[minute] == room;
                    Due.due("ask(0, 0, " + minute + ", 0)", x.ask(0, 0, minute, 0),
                        lies ? (room + 1) % 4 : was[minute]);
                }
            }
        }
    }

    private static void figureAboveFour() {
        Due.about("BOUGHT: of others in the MINUTE of the DEED the ROOM of the DEED, if FIGURE is above 4");
        for (int figure = 0; figure <= 9; figure++) {
            ItWasLikeThat x = Due.told("r33;c3" + figure + "1;c000;c000;t1222;t2222;b12;");
            asks(x, 0, 2, 2, figure > 4 ? 1 : 2);
            asks(x, 0, 2, 1, 2);
            asks(x, 0, 1, 2, 2);
            asks(x, 0, 0, 2, 0);
            x.deed(0, 2);
            asks(x, 0, 0, 2, 1);
            asks(x, 0, 1, 2, 2);
            asks(x, 0, 2, 2, figure > 4 ? 0 : 2);
            x.deed(2, 2);
            asks(x, 0, 1, 2, 0);
            asks(x, 0, 2, 2, 2);
        }
    }

    private static void evenFigures() {
        Due.about("BOLD: of others in the MINUTE of the DEED as a CHILD, if FIGURE is even, else the ROOM of the DEED");
        for (int figure = 0; figure <= 9; figure++) {
            ItWasLikeThat x = Due.told("r33;c4" + figure + "1;c000;t1222;b12;");
            asks(x, 0, 1, 2, figure % 2 == 0 ? 2 : 1);
            asks(x, 0, 1, 1, 2);
            asks(x, 0, 0, 2, 0);
            x.deed(0, 2);
            asks(x, 0, 0, 2, 0);
            x.deed(2, 2);
            asks(x, 0, 1, 2, 2);
        }
    }

    private static void ofItselfAlways() {
        Due.about("SMALL TRULY always. BOLD of itself TRULY always");
        for (String kind : new String[] {"c190;", "c490;", "c480;"}) {
            ItWasLikeThat x = Due.told("r22;" + kind + "c000;");
            asks(x, 0, 0, 0, 0);
            x.deed(0, 1);
            asks(x, 0, 0, 1, 0);
            x.deed(1, 1);
            asks(x, 0, 0, 1, 0);
        }
    }

    private static void nothing() {
        Due.about("SILENT nothing in the MINUTE of the DEED, else as a SMALL; 1; 0, also if it says nothing");
        ItWasLikeThat x = Due.told("r26;c590;c000;t1111111;");
        for (int deed = 0; deed < 6; deed++) {
            x.deed(deed % 2, deed);
            for (int minute = 0; minute < 6; minute++) {
                for (int child = 0; child < 2; child++) {
                    asks(x, 0, child, minute, minute == deed ? -9 : child);
                    Due.due("CAUGHT", x.ask(0, child, minute, 2), 0);
                }
            }
        }
    }

    private static void caught() {
        Due.about("CAUGHT: by FACTS no WAY of that CHILD is there then: 1, 0 (nothing said: 0)");
        ItWasLikeThat x = Due.told("r22;c000;c500;b01;");
        Due.due("what can be", x.ask(0, 0, 1, 2), 0);
        x.fact(0, 1, 1, 0);
        Due.due("what can't be", x.ask(0, 0, 1, 2), 1);
        x.unfact();
        x.fact(0, 1, 0, 0);
        Due.due("by one WAY alone it can", x.ask(0, 0, 1, 2), 0);
        Due.due("ways(0, 0)", x.ways(0, 0), 1);
        Due.due("of the MINUTE ahead, by a DOOR that is not", x.ask(0, 0, 0, 2), 1);
        Due.due("nothing said of what can't be", x.ask(1, 0, 1, 2), 0);
        Due.due("of another CHILD", x.ask(0, 1, 0, 2), 0);
    }

    private static void caughtByWhatIsNotTruly() {
        Due.about("CAUGHT: what it SAYS can't be");
        // FACTS need not tell where it TRULY was: who says the truth can be caught, who lies need not be.
        ItWasLikeThat x = Due.told("r22;c000;c100;b01;f011+;");
        Due.due("what 0 SAYS of itself", x.ask(0, 0, 1, 0), 1);
        Due.due("TRULY", x.ask(0, 0, 1, 1), 0);
        Due.due("CAUGHT", x.ask(0, 0, 1, 2), 0);
        Due.due("what 1 SAYS of 0", x.ask(1, 0, 1, 0), 0);
        Due.due("TRULY", x.ask(1, 0, 1, 1), 1);
        Due.due("CAUGHT", x.ask(1, 0, 1, 2), 1);
    }

    private static void eightSayings() {
        Due.about("SAYINGS (8 at most): A SAYING more: its number. -6 8.");
        ItWasLikeThat x = Due.told("r46;c000;c000;c000;c000;");
        for (int i = 0; i < 8; i++) {
            Due.due("says", x.says(3, i % 4, 5, i % 4), i);
        }
        Due.due("the ninth", x.says(3, 0, 5, 1), -6);
        Due.due("count(5)", x.count(5), 8);
        Due.due("holds(7)", x.holds(7), 1);
        Due.due("holds(8)", x.holds(8), -1);
        Due.due("together(255)", x.together(255), 1);
        Due.due("together(256)", x.together(256), -1);
        Due.due("most(0)", x.most(0), 8);
        Due.due("hush()", x.hush(), 8);
        Due.due("the first anew", x.says(0, 0, 0, 0), 0);
    }

    private static void noSayings() {
        Due.about("No SAYINGS then: how many there were.");
        ItWasLikeThat x = Due.told("c000;");
        for (int times = 0; times < 2; times++) {
            Due.due("hush()", x.hush(), 0);
            Due.due("count(5)", x.count(5), 0);
            Due.due("holds(0)", x.holds(0), -1);
            Due.due("together(0)", x.together(0), 1);
            Due.due("together(1)", x.together(1), -1);
            for (int what = 0; what < 4; what++) {
                Due.due("most(" + what + ")", x.most(what), 0);
            }
            x.says(0, 0, 0, 0);
            Due.due("hush()", x.hush(), 1);
        }
    }

    private static void setsOfSayings() {
        Due.about("TOGETHER. -1 (bits of SAYINGS).");
        ItWasLikeThat x = Due.told("r22;c000;");
        for (int sayings = 0; sayings <= 8; sayings++) {
            int all = (1 << sayings) - 1;
            Due.due("together of all " + sayings, x.together(all), 1);
            Due.due("together of one more", x.together(all + 1), -1);
            Due.due("together of the sign's bit", x.together(Integer.MIN_VALUE | all), -1);
            Due.due("together of all bits", x.together(-1), -1);
            x.says(0, 0, sayings % 2, 0);
        }
        Due.due("count(11)", x.count(11), 27);
    }

    private static void theLeastBits() {
        Due.about("MOST: the first such set (the least bits); MUST: in no set of MOST such");
        ItWasLikeThat x = Due.told("r42;c000;c000;c000;c000;");
        // Each of four ROOMS is told of 0 by another: no two hold TOGETHER.
        for (int speaker = 0; speaker < 4; speaker++) {
            x.says(speaker, 0, 0, 3 - speaker);
        }
        Due.due("most(0)", x.most(0), 1);
        Due.due("most(1)", x.most(1), 1);
        Due.due("most(2)", x.most(2), 0);
        Due.due("most(3)", x.most(3), 0);
        x.fact(0, 0, 3, 0);
        Due.due("most(1), the first being none", x.most(1), 2);
        Due.due("most(2)", x.most(2), 1);
        Due.due("most(3)", x.most(3), 1);
        x.fact(0, 0, 2, 0);
        x.fact(0, 0, 1, 0);
        Due.due("most(0), the last alone", x.most(0), 1);
        Due.due("most(1), the last alone", x.most(1), 8);
        Due.due("most(2)", x.most(2), 7);
        x.hush();
        x.says(1, 0, 0, 1);
        x.says(2, 0, 1, 1);
        // Of SAYINGS none of which hold, no set is the greatest.
        Due.due("most(0) of none that hold", x.most(0), 0);
        Due.due("most(1) of none that hold", x.most(1), 0);
        Due.due("most(2) of none that hold", x.most(2), 6);
        Due.due("most(3) of none that hold", x.most(3), 6);
    }

    private static void firstOfSeveral() {
        Due.about("FIRST: of several the least CHILD, then MINUTE; -9 no CHILDREN");
        Due.due("first() of nobody", new ItWasLikeThat().first(), -9);
        Due.due("first() of one", Due.told("r22;c000;").first(), 0);
        ItWasLikeThat x = Due.told("r26;c000;c000;c000;c000;");
        Due.due("first() of all alike", x.first(), 0);
        x.fact(0, 5, 0, 1);
        Due.due("all but 0", x.first(), 10);
        x.fact(1, 0, 1, 1);
        x.fact(2, 3, 0, 0);
        Due.due("the last CHILD alone", x.first(), 30);
        x.fact(3, 3, 0, 0);
        Due.due("none is better than another", x.first(), 0);
        // The last MINUTE of the last CHILD: only there are two ROOMS left.
        x = Due.told("r26;d01;c000;c000;c000;c000;");
        for (int child = 0; child < 4; child++) {
            for (int minute = 0; minute < (child == 3 ? 5 : 1); minute++) {
                x.fact(child, minute, 0, 1);
            }
        }
        Due.due("a MINUTE that is not known of the least CHILD", x.first(), 1);
    }

    private static void firstInParts() {
        Due.about("the greatest number of its WAYS that any answer leaves is least in parts of its WAYS");
        // Of 0 one of two WAYS is left, of 1 two of four: a half each.
        ItWasLikeThat x = Due.told("r22;d01;c000;c000;");
        x.fact(0, 0, 0, 1);
        Due.due("a half of two, a half of four", x.first(), 1);
        x = Due.told("r32;d01;c000;c000;");
        x.fact(0, 0, 1, 0);
        x.fact(1, 0, 2, 0);
        // 0: ROOMS 0 0, 0 1, 2 2: 2 by 3 or 1 by 3. 1: 0 0, 0 1, 1 0, 1 1: 2 by 4.
        Due.due("a third", x.first(), 1);
        x.unfact();
        x.unfact();
        x.fact(0, 1, 1, 0);
        x.fact(0, 0, 2, 0);
        // 0: ROOMS 0 0, 1 0: 1 by 2. 1: 5 WAYS, 2 by 5.
        Due.due("two fifths", x.first(), 10);
    }
}
