import java.util.ArrayList;
import java.util.List;
import java.util.function.Predicate;

/**
 * One call with its REFUSALS in the order in which the document tells them. It is tried with every mixture of the
 * least and the greatest number that is taken for each argument, the first that is refused on each side, and the ends
 * of all ints: the first REFUSAL that fits is answered and counted, and all else is as if the call had not been.
 */
final class Refusals {
    interface Call {
        long on(ItWasLikeThat x, int[] a);
    }

    private static final long LONGS = 4000000000000000000L;
    private static final int[] CODES = {-1, -2, -3, -4, -6};

    private final Start start;
    private final String name;
    private final Call call;
    private final List<int[]> tried = new ArrayList<>();
    private final List<Integer> least = new ArrayList<>();
    private final List<Integer> greatest = new ArrayList<>();
    private final List<Integer> codes = new ArrayList<>();
    private final List<Predicate<int[]>> fits = new ArrayList<>();
    private boolean isOfLongs = false;
    private List<String> seenWithout;

    Refusals(Start start, String name, Call call) {
        this.start = start;
        this.name = name;
        this.call = call;
    }

    Refusals ofLongs() {
        isOfLongs = true;
        return this;
    }

    /** The next argument: its least number, its greatest; none at all, if the greatest is below the least. */
    Refusals number(int from, int to) {
        least.add(from);
        greatest.add(to);
        tried.add(to < from
            ? new int[] {Integer.MIN_VALUE, from - 1, from, Integer.MAX_VALUE}
            : new int[] {Integer.MIN_VALUE, from - 1, from, to, to + 1, Integer.MAX_VALUE});
        return this;
    }

    /** The next argument: an int, each of which is taken. */
    Refusals any() {
        least.add(Integer.MIN_VALUE);
        greatest.add(Integer.MAX_VALUE);
        tried.add(new int[] {Integer.MIN_VALUE, -1, 0, Integer.MAX_VALUE});
        return this;
    }

    Refusals outside(int code, int... arguments) {
        return when(code, a -> isBelow(a, arguments) || isAbove(a, arguments));
    }

    Refusals below(int code, int... arguments) {
        return when(code, a -> isBelow(a, arguments));
    }

    Refusals above(int code, int... arguments) {
        return when(code, a -> isAbove(a, arguments));
    }

    Refusals when(int code, boolean is) {
        return when(code, a -> is);
    }

    Refusals when(int code, Predicate<int[]> is) {
        codes.add(code);
        fits.add(is);
        return this;
    }

    private boolean isBelow(int[] a, int[] arguments) {
        for (int i : arguments) {
            if (a[i] < least.get(i)) {
                return true;
            }
        }
        return false;
    }

    private boolean isAbove(int[] a, int[] arguments) {
        for (int i : arguments) {
            if (a[i] > greatest.get(i)) {
                return true;
            }
        }
        return false;
    }

    void look() {
        seenWithout = Seen.of(start.made());
        mixtures(new int[tried.size()], 0);
    }

    private void mixtures(int[] a, int at) {
        if (at == a.length) {
            one(a);
            return;
        }
        for (int number : tried.get(at)) {
            a[at] = number;
            mixtures(a, at + 1);
        }
    }

    private void one(int[] a) {
        ItWasLikeThat x = start.made();
        long got = call.on(x, a);
        int code = due(a);
        String told = told(a);
        if (code != 0) {
            Due.due(told, got, isOfLongs ? LONGS - code : code);
        } else {
            Due.due(told + " is not refused, " + got, isRefusal(got) ? 1 : 0, 0);
        }
        for (int counted = -1; counted >= -6; counted--) {
            Due.due("count(" + (10 - counted) + ") behind " + told, x.count(10 - counted), counted == code ? 1 : 0);
        }
        if (code != 0) {
            unchanged(told, Seen.of(x));
        }
    }

    private int due(int[] a) {
        for (int i = 0; i < codes.size(); i++) {
            if (fits.get(i).test(a)) {
                return codes.get(i);
            }
        }
        return 0;
    }

    private boolean isRefusal(long answer) {
        for (int code : CODES) {
            if (answer == (isOfLongs ? LONGS - code : code)) {
                return true;
            }
        }
        return false;
    }

    private void unchanged(String told, List<String> seen) {
        if (seen.equals(seenWithout)) {
            return;
        }
        for (int i = 0; i < Math.min(seen.size(), seenWithout.size()); i++) {
            if (!seen.get(i).equals(seenWithout.get(i))) {
                Due.due("behind " + told + " " + seen.get(i) + ", without it " + seenWithout.get(i) + ": changed", 1, 0);
                return;
            }
        }
    }

    private String told(int[] a) {
        StringBuilder b = new StringBuilder(name).append('(');
        for (int i = 0; i < a.length; i++) {
            b.append(i == 0 ? "" : ", ").append(a[i]);
        }
        return b.append(") on ").append(start.name).toString();
    }
}
