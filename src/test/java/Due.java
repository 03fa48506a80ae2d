/** What the tests share: it counts the answers that are not the ones due, and tells HOUSES. */
final class Due {
    private static int asked = 0;
    private static int wrong = 0;

    private Due() {
    }

    static void due(String call, long got, long want) {
        asked++;
        if (got != want) {
            wrong++;
            System.out.println(call + " answered " + got + ", due is " + want);
        }
    }

    /** Feeds a text and has it read: what house() answers. */
    static int tell(ItWasLikeThat x, String text) {
        for (int i = 0; i < text.length(); i++) {
            x.feed(text.charAt(i));
        }
        return x.house();
    }

    /** A new object with a HOUSE that must be without FAULT; SAYINGS and FACTS as told. */
    static ItWasLikeThat told(String text) {
        ItWasLikeThat x = new ItWasLikeThat();
        int from = 0;
        while (from < text.length()) {
            // A text above 96 letters is told in parts, each a HOUSE of its own.
            int to = Math.min(text.length(), from + 96);
            to = text.lastIndexOf(';', to - 1) + 1;
            int answer = tell(x, text.substring(from, to));
            if (answer <= 0) {
                due("house() of " + text.substring(from, to), answer, 1);
            }
            from = to;
        }
        return x;
    }

    static void row(ItWasLikeThat x, int... numbers) {
        for (int number : numbers) {
            x.row(number);
        }
    }

    /** Due is an answer that is refused, and counted once as just that. */
    static void refused(ItWasLikeThat x, String call, long got, int code, int before) {
        due(call, got, code);
        due("count(" + (10 - code) + ") behind " + call, x.count(10 - code), before + 1);
    }

    static void end() {
        System.out.println(asked + " answers looked at, " + wrong + " not as due");
        if (wrong != 0) {
            System.exit(1);
        }
    }
}
