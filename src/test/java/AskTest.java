/** Promises 21 (ask) and 22 (first). */
public final class AskTest {
    public static void main(String[] args) {
        asChild();
        asSmall();
        asLoyal();
        asBought();
        asBold();
        asSilent();
        caught();
        refusals();
        first();
        Due.end();
    }

    /** ROOM 2 in MINUTE 1: 0 and 1 were THERE, 2 was not. */
    private static ItWasLikeThat withSpeaker(String third) {
        return Due.told("r33;d01;d12;d02;b21;c000;c000;" + third + "t0021;t1222;t2010;");
    }

    private static void says(ItWasLikeThat x, int speaker, int child, int minute, int want) {
        Due.due("ask(" + speaker + ", " + child + ", " + minute + ", 0)", x.ask(speaker, child, minute, 0), want);
        int truly = want == x.was(child, minute) ? 1 : 0;
        Due.due("ask(" + speaker + ", " + child + ", " + minute + ", 1)", x.ask(speaker, child, minute, 1), truly);
    }

    private static void truly(ItWasLikeThat x, int speaker) {
        for (int c = 0; c < 3; c++) {
            says(x, speaker, c, 0, x.was(c, 0));
            says(x, speaker, c, 2, x.was(c, 2));
        }
    }

    private static void asChild() {
        ItWasLikeThat x = withSpeaker("c000;");
        truly(x, 0);
        // The next ROOM, 0 behind the last.
        says(x, 0, 0, 1, 0);
        says(x, 1, 1, 1, 0);
        says(x, 0, 1, 1, 2);
        says(x, 0, 2, 1, 1);
        says(x, 2, 2, 1, 1);
        x.deed(1, 1);
        says(x, 2, 2, 1, 2);
        says(x, 0, 0, 1, 2);
    }

    private static void asSmall() {
        ItWasLikeThat x = withSpeaker("c192;");
        truly(x, 2);
        x.deed(1, 1);
        says(x, 2, 2, 1, 1);
        says(x, 2, 0, 1, 2);
    }

    private static void asLoyal() {
        ItWasLikeThat x = withSpeaker("c200;");
        truly(x, 2);
        says(x, 2, 0, 1, 0);
        says(x, 2, 1, 1, 2);
        says(x, 2, 2, 1, 1);
        x.deed(1, 1);
        says(x, 2, 0, 1, 2);
        says(x, 2, 2, 1, 2);
        // A TIE that is not there, and a TIE to itself.
        x = withSpeaker("c203;");
        says(x, 2, 0, 1, 2);
        x = withSpeaker("c202;");
        x.deed(1, 1);
        says(x, 2, 2, 1, 2);
    }

    private static void asBought() {
        ItWasLikeThat x = withSpeaker("c350;");
        truly(x, 2);
        says(x, 2, 0, 1, 0);
        says(x, 2, 1, 1, 2);
        says(x, 2, 2, 1, 1);
        x.deed(1, 1);
        // Of its TIE and itself as a LOYAL, of the other the ROOM of the DEED.
        says(x, 2, 0, 1, 2);
        says(x, 2, 1, 1, 1);
        says(x, 2, 2, 1, 2);
        says(x, 2, 1, 0, 2);
        x = withSpeaker("c340;");
        x.deed(1, 1);
        says(x, 2, 1, 1, 2);
        x = withSpeaker("c393;");
        x.deed(0, 1);
        says(x, 2, 0, 1, 0);
        says(x, 2, 1, 1, 0);
        says(x, 2, 2, 1, 1);
    }

    private static void asBold() {
        ItWasLikeThat x = withSpeaker("c470;");
        truly(x, 2);
        x.deed(1, 1);
        says(x, 2, 2, 1, 1);
        says(x, 2, 0, 1, 1);
        says(x, 2, 1, 1, 1);
        x = withSpeaker("c480;");
        truly(x, 2);
        says(x, 2, 0, 1, 2);
        x.deed(1, 1);
        says(x, 2, 0, 1, 2);
        says(x, 2, 2, 1, 1);
    }

    private static void asSilent() {
        ItWasLikeThat x = withSpeaker("c590;");
        truly(x, 2);
        for (int c = 0; c < 3; c++) {
            says(x, 2, c, 1, -9);
            Due.due("caught, saying nothing", x.ask(2, c, 1, 2), 0);
        }
    }

    private static void caught() {
        ItWasLikeThat x = withSpeaker("c100;");
        Due.due("caught by no FACT", x.ask(0, 0, 1, 2), 0);
        x.fact(0, 1, 0, 0);
        Due.due("caught", x.ask(0, 0, 1, 2), 1);
        Due.due("not of another MINUTE", x.ask(0, 0, 0, 2), 0);
        Due.due("not by the truth", x.ask(2, 0, 1, 2), 0);
        x.fact(0, 1, 2, 0);
        Due.due("by the truth against a FACT", x.ask(2, 0, 1, 2), 1);
        Due.due("what 1 all the same", x.ask(2, 0, 1, 1), 1);
        // No DOOR leads there, though no FACT speaks of that MINUTE.
        x = Due.told("r32;d01;c000;b21;t022;f000+;");
        Due.due("caught by DOORS", x.ask(0, 0, 0, 2), 1);
        Due.due("says(0, 0, 1)", x.ask(0, 0, 1, 0), 0);
        Due.due("not caught", x.ask(0, 0, 1, 2), 0);
    }

    private static void refusals() {
        ItWasLikeThat x = withSpeaker("c000;");
        Due.refused(x, "ask(3, ..)", x.ask(3, 0, 0, 3), -1, 0);
        Due.refused(x, "ask(-1, ..)", x.ask(-1, 0, 0, 0), -1, 1);
        Due.refused(x, "ask(0, 3, ..)", x.ask(0, 3, 0, 0), -1, 2);
        Due.refused(x, "ask(0, -1, ..)", x.ask(0, -1, 0, 0), -1, 3);
        Due.refused(x, "ask(.., 3, 0)", x.ask(0, 0, 3, 0), -1, 4);
        Due.refused(x, "ask(.., -1, 0)", x.ask(0, 0, -1, 0), -1, 5);
        Due.refused(x, "ask(.., 3)", x.ask(0, 0, 0, 3), -2, 0);
        Due.refused(x, "ask(.., -1)", x.ask(0, 0, 0, -1), -2, 1);
    }

    private static void first() {
        Due.due("first() of nobody", new ItWasLikeThat().first(), -9);
        ItWasLikeThat x = Due.told("r32;d01;c000;c000;");
        Due.due("all alike", x.first(), 0);
        // 1 by 1 in MINUTE 0, 1 by 2 in MINUTE 1: both above 2 by 5.
        x.fact(1, 0, 0, 1);
        Due.due("the least part", x.first(), 0);
        x.fact(0, 0, 2, 1);
        Due.due("the last MINUTE of 1", x.first(), 11);
        x.unfact();
        x.fact(0, 0, 1, 1);
        Due.due("of several the least CHILD", x.first(), 1);
        // In a row of three ROOMS the ends are the best to ask of: 5, 7, 5 by 17 against 4, 9, 4.
        x = Due.told("r33;d01;d12;c000;");
        Due.due("of several the least MINUTE", x.first(), 0);
        x.fact(0, 0, 1, 1);
        Due.due("not the one known: 3 by 7 in either other", x.first(), 1);
        x.fact(0, 1, 1, 1);
        Due.due("the last one", x.first(), 2);
    }
}
