/** The states in which each call is tried: nothing in it, something, as much as there can be. */
final class Start {
    static final Start[] ALL = {
        new Start("a new object", ""),
        new Start("two CHILDREN", "c000;c410;c310;b21;f000+;f100-;"),
        new Start("all full", "r46;d01;d02;d03;d12;d13;d23;c000;c112;c253;c481;b35;t0333333;t1012301;")
    };

    final String name;
    final int rooms;
    final int minutes;
    final int children;
    final int facts;
    final int sayings;
    final int letters;
    final int numbers;
    final boolean hasImage;
    private final String text;

    private Start(String name, String text) {
        this.name = name;
        this.text = text;
        ItWasLikeThat x = made();
        rooms = x.count(0);
        minutes = x.count(1);
        children = x.count(2);
        facts = x.count(4);
        sayings = x.count(5);
        letters = x.count(7);
        numbers = x.count(8);
        hasImage = x.restore() >= 0;
    }

    boolean isFull() {
        return facts == 16;
    }

    ItWasLikeThat made() {
        ItWasLikeThat x = new ItWasLikeThat();
        if (!text.isEmpty()) {
            Due.tell(x, text);
            x.chance(5, 50);
            x.image();
            x.chance(5, 3);
            fill(x, text.startsWith("r46"));
        }
        return x;
    }

    private static void fill(ItWasLikeThat x, boolean toTheBrim) {
        for (int i = 0; i < (toTheBrim ? 16 : 1); i++) {
            x.fact(1, 1, 2, 0);
        }
        for (int i = 0; i < (toTheBrim ? 8 : 3); i++) {
            x.says(i % 2, (i + 1) % 2, i % 3, i % 2);
        }
        String letters = toTheBrim ? "d01;".repeat(24) : "d12;c301";
        for (int i = 0; i < letters.length(); i++) {
            x.feed(letters.charAt(i));
        }
        Due.row(x, toTheBrim ? new int[] {0, 1, 3, 1, 1, 1, 2, 2, 0, 3, 0, 3} : new int[] {0, 1});
    }
}
