/** What the tests share: it counts the answers that are not the ones due, and tells HOUSES. */
final class Due {
    private static int asked = 0;
    private static int wrong = 0;
    private static String sentence = "";

    private Due() {
    }

    /** What the document asks, told beside each answer from here on that is not as due. */
    static void about(String words) {
        sentence = words;
    }

    static void due(String call, long got, long want) {
        asked++;
        if (got != want) {
            wrong++;
            String by = sentence.isEmpty() ? "" : " by \"" + sentence + "\"";
            System.out.println(call + " answered " + got + ", due is " + want + by);
        }
    }

    /** Feeds a text and has it read: what house() answers. */
    static int tell(ItWasLikeThat x, String text) {
        for (int i = 0; i < text.length(); i++) {
            x.feed(text.charAt(i));
        }
        return x.house();
    }

    /** What house() answers to a text is due; the text may come behind others. */
    static void tells(ItWasLikeThat x, String text, int want) {
        due("house() of " + text, tell(x, text), want);
    }

    /** What house() answers to a text on a new object is due. */
    static ItWasLikeThat tells(String text, int want) {
        ItWasLikeThat x = new ItWasLikeThat();
        tells(x, text, want);
        return x;
    }

    /** A new object with a HOUSE that must be without FAULT; SAYINGS and FACTS as told. */
    static ItWasLikeThat told(String text) {
        ItWasLikeThat x = new ItWasLikeThat();
        int from = 0;
        while (from < text.length()) {
            // A text above 96 letters is told in parts, each a HOUSE of its own.
            int to = Math.min(text.length(), from + 96);
            to = text.lastIndexOf(';', to - 1) + 1;
            int answer = tell(x, text.substring(from, to));
            if (answer <= 0) {
                due("house() of " + text.substring(from, to), answer, 1);
            }
            from = to;
        }
        return x;
    }

    static void row(ItWasLikeThat x, int... numbers) {
        for (int number : numbers) {
            x.row(number);
        }
    }

    /** The counts from 0 on are due. */
    static void counts(ItWasLikeThat x, int... want) {
        for (int what = 0; what < want.length; what++) {
            due("count(" + what + ")", x.count(what), want[what]);
        }
    }

    /** Nothing has been refused, so far. */
    static void nothingRefused(ItWasLikeThat x) {
        for (int what = 11; what <= 16; what++) {
            due("count(" + what + ")", x.count(what), 0);
        }
    }

    /** Due is an answer that is refused, and counted once as just that. */
    static void refused(ItWasLikeThat x, String call, long got, int code, int before) {
        due(call, got, code);
        due("count(" + (10 - code) + ") behind " + call, x.count(10 - code), before + 1);
    }

    static void end() {
        System.out.println(asked + " answers looked at, " + wrong + " not as due");
        if (wrong != 0) {
            System.exit(1);
        }
    }
}
