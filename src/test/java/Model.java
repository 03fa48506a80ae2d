import java.math.BigInteger;
import java.util.ArrayList;
import java.util.List;

/** The document told a second time, slowly: each WAY is gone one by one, each fraction is of BigIntegers. */
final class Model {
    private static final long LONGS = 4000000000000000000L;
    private static final String[] KINDS = {"CHILD", "SMALL", "LOYAL", "BOUGHT", "BOLD", "SILENT"};

    private static final class Kid {
        String kind;
        int figure;
        int tie;
        int skill;
        int[] truly = new int[6];

        Kid copy() {
            Kid k = new Kid();
            k.kind = kind;
            k.figure = figure;
            k.tie = tie;
            k.skill = skill;
            k.truly = truly.clone();
            return k;
        }
    }

    private static final class World {
        int rooms = 3;
        int minutes = 4;
        int deedRoom = 0;
        int deedMinute = 0;
        boolean[][] door = new boolean[4][4];
        List<Kid> kids = new ArrayList<>();
        List<int[]> facts = new ArrayList<>();
        List<int[]> sayings = new ArrayList<>();
        int[] chance = {2, 1, 1};

        World copy() {
            World w = new World();
            w.rooms = rooms;
            w.minutes = minutes;
            w.deedRoom = deedRoom;
            w.deedMinute = deedMinute;
            for (int i = 0; i < 4; i++) {
                w.door[i] = door[i].clone();
            }
            for (Kid k : kids) {
                w.kids.add(k.copy());
            }
            w.facts.addAll(facts);
            w.sayings.addAll(sayings);
            w.chance = chance.clone();
            return w;
        }

        boolean isRoom(int r) {
            return 0 <= r && r < rooms;
        }

        boolean isMinute(int m) {
            return 0 <= m && m < minutes;
        }

        boolean isKid(int c) {
            return 0 <= c && c < kids.size();
        }

        List<int[]> ways(int c) {
            List<int[]> found = new ArrayList<>();
            go(c, new int[minutes], 0, found);
            return found;
        }

        private void go(int c, int[] way, int m, List<int[]> found) {
            if (m == minutes) {
                found.add(way.clone());
                return;
            }
            for (int r = 0; r < rooms; r++) {
                boolean ok = m == 0 || way[m - 1] == r || door[way[m - 1]][r];
                for (int[] f : facts) {
                    if (f[0] == c && f[1] == m && (f[2] == r) != (f[3] == 1)) {
                        ok = false;
                    }
                }
                if (ok) {
                    way[m] = r;
                    go(c, way, m + 1, found);
                }
            }
        }

        long passing(int c, int minute, int room) {
            return ways(c).stream().filter(w -> w[minute] == room).count();
        }

        int asChild(int of, int minute, boolean ofItself) {
            int t = kids.get(of).truly[minute];
            boolean there = kids.get(of).truly[deedMinute] == deedRoom;
            return ofItself && minute == deedMinute && there ? (t + 1) % rooms : t;
        }

        int says(int speaker, int of, int minute) {
            if (!isKid(speaker) || !isKid(of)) {
                return -9;
            }
            Kid k = kids.get(speaker);
            boolean deed = minute == deedMinute;
            int truly = kids.get(of).truly[minute];
            boolean self = speaker == of;
            boolean tie = k.tie == of;
            switch (k.kind) {
                case "CHILD":
                    return asChild(of, minute, self);
                case "SMALL":
                    return truly;
                case "LOYAL":
                    return asChild(of, minute, self || tie);
                case "BOUGHT":
                    return !self && !tie && deed && k.figure > 4 ? deedRoom : asChild(of, minute, self || tie);
                case "BOLD":
                    return !self && deed && k.figure % 2 == 1 ? deedRoom : truly;
                default:
                    return deed ? -9 : truly;
            }
        }

        int guilt(int c) {
            return switch (kids.get(c).kind) {
                case "CHILD" -> 5;
                case "SMALL", "SILENT" -> 6;
                case "LOYAL", "BOUGHT" -> 3;
                default -> 8;
            };
        }

        int slips(int c) {
            Kid k = kids.get(c);
            int slips = switch (k.kind) {
                case "CHILD" -> 2;
                case "SMALL" -> 6;
                case "LOYAL" -> 1;
                case "BOUGHT" -> 1 + k.figure / 2;
                case "BOLD" -> 3;
                default -> 3;
            };
            slips -= k.skill / 3;
            return slips < 0 ? 0 : slips > 9 ? 9 : slips;
        }

        int named(int doer) {
            int n = 0;
            for (int c = 0; c < kids.size(); c++) {
                n += c != doer && says(c, doer, deedMinute) == deedRoom ? 1 : 0;
            }
            return n;
        }

        int pays(int doer, int law, int v, boolean owning) {
            boolean named = named(doer) > 0;
            switch (law) {
                case 0:
                    return owning ? v / 2 : named ? v : v / kids.size();
                case 1:
                    return owning ? v : named ? v : 0;
                case 2:
                    return v;
                default:
                    return owning ? 0 : named ? v : 0;
            }
        }

        boolean owns(int doer, int law, int v) {
            return pays(doer, law, v, true) <= pays(doer, law, v, false);
        }

        int innocent(int doer, int law, int v) {
            if (owns(doer, law, v)) {
                return 0;
            }
            boolean allPay = law == 2 || law == 0 && named(doer) == 0;
            return allPay ? (kids.size() - 1) * pays(doer, law, v, false) : 0;
        }

        /** In tenths, above and below the line. */
        BigInteger[] weight(int culprit) {
            if (culprit >= 4) {
                return new BigInteger[] {BigInteger.valueOf(chance[culprit - 4]), BigInteger.ONE};
            }
            if (!isKid(culprit)) {
                return new BigInteger[] {BigInteger.ZERO, BigInteger.ONE};
            }
            long all = ways(culprit).size();
            if (all == 0) {
                return new BigInteger[] {BigInteger.ZERO, BigInteger.ONE};
            }
            long there = passing(culprit, deedMinute, deedRoom);
            return new BigInteger[] {BigInteger.valueOf(guilt(culprit) * there), BigInteger.valueOf(all)};
        }

        static BigInteger[] plus(BigInteger[] a, BigInteger[] b) {
            return new BigInteger[] {a[0].multiply(b[1]).add(b[0].multiply(a[1])), a[1].multiply(b[1])};
        }

        BigInteger[] part(int set) {
            BigInteger[] total = {BigInteger.ZERO, BigInteger.ONE};
            BigInteger[] some = total;
            for (int i = 0; i < 7; i++) {
                total = plus(total, weight(i));
                if ((set & 1 << i) != 0) {
                    some = plus(some, weight(i));
                }
            }
            if (total[0].signum() == 0) {
                return new BigInteger[] {BigInteger.ZERO, BigInteger.ONE};
            }
            return new BigInteger[] {some[0].multiply(total[1]), some[1].multiply(total[0])};
        }

        int punished(int s) {
            int set = 0;
            for (int c = 0; c < kids.size(); c++) {
                BigInteger[] p = part(1 << c);
                if (p[0].multiply(BigInteger.TEN).compareTo(p[1].multiply(BigInteger.valueOf(s))) >= 0) {
                    set |= 1 << c;
                }
            }
            return set;
        }

        boolean together(int set) {
            for (int c = 0; c < kids.size(); c++) {
                final int kid = c;
                boolean told = false;
                for (int i = 0; i < sayings.size(); i++) {
                    told |= (set & 1 << i) != 0 && sayings.get(i)[1] == kid;
                }
                if (told && ways(c).stream().noneMatch(w -> fits(w, kid, set))) {
                    return false;
                }
            }
            return true;
        }

        private boolean fits(int[] way, int kid, int set) {
            for (int i = 0; i < sayings.size(); i++) {
                int[] s = sayings.get(i);
                if ((set & 1 << i) != 0 && s[1] == kid && way[s[2]] != s[3]) {
                    return false;
                }
            }
            return true;
        }

        List<Integer> neighbours(int room) {
            List<Integer> found = new ArrayList<>();
            for (int r = 0; r < rooms; r++) {
                if (door[room][r]) {
                    found.add(r);
                }
            }
            return found;
        }

        int doors() {
            int n = 0;
            for (int a = 0; a < rooms; a++) {
                for (int b = a + 1; b < rooms; b++) {
                    n += door[a][b] ? 1 : 0;
                }
            }
            return n;
        }
    }

    private World w = new World();
    private World image = null;
    private final StringBuilder letters = new StringBuilder();
    private final List<Integer> row = new ArrayList<>();
    private final int[] refused = new int[7];

    private long no(int code) {
        refused[-code]++;
        return code;
    }

    private long noLong(int code) {
        return LONGS - no(code);
    }

    private static long leastTerms(BigInteger[] f, int part) {
        BigInteger g = f[0].gcd(f[1]);
        return f[part].divide(g).longValueExact();
    }

    long feed(int letter) {
        if (letter < 0) {
            return no(-4);
        }
        if (letter > 255 || letters.length() == 96) {
            return no(-6);
        }
        letters.append((char) letter);
        return letters.length();
    }

    long house() {
        String text = letters.toString();
        letters.setLength(0);
        int place = faultOfForm(text);
        if (place >= 0) {
            return -1000 - place;
        }
        World after = w.copy();
        after.sayings.clear();
        int begin = 0;
        String[] statements = text.split(";");
        for (String s : statements) {
            if (!comes(after, s)) {
                return -2000 - begin;
            }
            begin += s.length() + 1;
        }
        w = after;
        return statements.length;
    }

    private int faultOfForm(String text) {
        int minutes = w.minutes;
        int at = 0;
        do {
            // 9 stands for a digit, ± for + or -.
            String form;
            char first = at < text.length() ? text.charAt(at) : 0;
            switch (first) {
                case 'r': case 'd': case 'b': form = "99;"; break;
                case 'c': form = "999;"; break;
                case 'f': form = "999±;"; break;
                case 't': form = "9" + "9".repeat(minutes) + ";"; break;
                default: return at;
            }
            for (int i = 0; i < form.length(); i++) {
                if (at + 1 + i >= text.length()) {
                    return text.length();
                }
                char c = text.charAt(at + 1 + i);
                char f = form.charAt(i);
                boolean ok = f == '9' ? "0123456789".indexOf(c) >= 0 : f == '±' ? c == '+' || c == '-' : c == f;
                if (!ok) {
                    return at + 1 + i;
                }
            }
            if (first == 'r') {
                int r = text.charAt(at + 1) - '0';
                int m = text.charAt(at + 2) - '0';
                minutes = r >= 2 && r <= 4 && m >= 2 && m <= 6 ? m : minutes;
            }
            at += 1 + form.length();
        } while (at < text.length());
        return -1;
    }

    private static boolean comes(World a, String s) {
        int[] d = new int[s.length()];
        for (int i = 1; i < s.length(); i++) {
            d[i] = s.charAt(i) - '0';
        }
        switch (s.charAt(0)) {
            case 'r':
                if (d[1] < 2 || d[1] > 4 || d[2] < 2 || d[2] > 6) {
                    return false;
                }
                a.rooms = d[1];
                a.minutes = d[2];
                a.door = new boolean[4][4];
                a.kids.clear();
                a.facts.clear();
                a.deedRoom = 0;
                a.deedMinute = 0;
                return true;
            case 'd':
                if (!a.isRoom(d[1]) || !a.isRoom(d[2]) || d[1] == d[2]) {
                    return false;
                }
                a.door[d[1]][d[2]] = !a.door[d[1]][d[2]];
                a.door[d[2]][d[1]] = a.door[d[1]][d[2]];
                for (int c = 0; c < a.kids.size(); c++) {
                    if (a.ways(c).isEmpty()) {
                        return false;
                    }
                }
                return true;
            case 'c':
                if (d[1] > 5 || d[3] > 3 || a.kids.size() == 4) {
                    return false;
                }
                Kid k = new Kid();
                k.kind = KINDS[d[1]];
                k.figure = d[2];
                k.tie = d[3];
                a.kids.add(k);
                return true;
            case 't':
                if (!a.isKid(d[1])) {
                    return false;
                }
                for (int m = 0; m < a.minutes; m++) {
                    if (!a.isRoom(d[2 + m])) {
                        return false;
                    }
                    if (m > 0 && d[2 + m] != d[1 + m] && !a.door[d[1 + m]][d[2 + m]]) {
                        return false;
                    }
                }
                for (int m = 0; m < a.minutes; m++) {
                    a.kids.get(d[1]).truly[m] = d[2 + m];
                }
                return true;
            case 'b':
                if (!a.isRoom(d[1]) || !a.isMinute(d[2])) {
                    return false;
                }
                a.deedRoom = d[1];
                a.deedMinute = d[2];
                return true;
            default:
                if (!a.isKid(d[1]) || !a.isMinute(d[2]) || !a.isRoom(d[3]) || a.facts.size() == 16) {
                    return false;
                }
                a.facts.add(new int[] {d[1], d[2], d[3], s.charAt(4) == '+' ? 1 : 0});
                return !a.ways(d[1]).isEmpty();
        }
    }

    long child(int c, int what) {
        if (!w.isKid(c)) {
            return no(-1);
        }
        Kid k = w.kids.get(c);
        switch (what) {
            case 0: return List.of(KINDS).indexOf(k.kind);
            case 1: return k.figure;
            case 2: return k.tie;
            case 3: return k.skill;
            case 4: return w.guilt(c);
            case 5: return w.slips(c);
            default: return no(-2);
        }
    }

    long was(int c, int m) {
        return w.isKid(c) && w.isMinute(m) ? w.kids.get(c).truly[m] : no(-1);
    }

    long door(int a, int b) {
        return w.isRoom(a) && w.isRoom(b) && a != b ? w.door[a][b] ? 1 : 0 : no(-1);
    }

    long deed(int r, int m) {
        if (!w.isRoom(r) || !w.isMinute(m)) {
            return no(-1);
        }
        int was = 10 * w.deedRoom + w.deedMinute;
        w.deedRoom = r;
        w.deedMinute = m;
        return was;
    }

    long fact(int c, int m, int r, int is) {
        if (!w.isKid(c) || !w.isMinute(m) || !w.isRoom(r)) {
            return no(-1);
        }
        if (is != 0 && is != 1) {
            return no(-2);
        }
        if (w.facts.size() == 16) {
            return no(-6);
        }
        World after = w.copy();
        after.facts.add(new int[] {c, m, r, is});
        if (after.ways(c).isEmpty()) {
            return no(-3);
        }
        w = after;
        return w.facts.size();
    }

    long unfact() {
        if (w.facts.isEmpty()) {
            return no(-3);
        }
        w.facts.remove(w.facts.size() - 1);
        return w.facts.size();
    }

    long chance(int culprit, int v) {
        if (culprit < 4 || culprit > 6) {
            return no(-1);
        }
        if (v < 0) {
            return no(-4);
        }
        if (v > 99) {
            return no(-6);
        }
        int was = w.chance[culprit - 4];
        w.chance[culprit - 4] = v;
        return was;
    }

    long ways(int c, int what) {
        if (!w.isKid(c)) {
            return no(-1);
        }
        if (what < 0 || what > 1) {
            return no(-2);
        }
        return what == 0 ? w.ways(c).size() : w.passing(c, w.deedMinute, w.deedRoom);
    }

    long can(int what) {
        if (what < 0 || what > 1) {
            return no(-2);
        }
        int set = 0;
        for (int c = 0; c < w.kids.size(); c++) {
            long there = w.passing(c, w.deedMinute, w.deedRoom);
            if (there > 0 && (what == 0 || there == w.ways(c).size())) {
                set |= 1 << c;
            }
        }
        return set;
    }

    long where(int c, int m) {
        if (!w.isKid(c) || !w.isMinute(m)) {
            return no(-1);
        }
        int set = 0;
        for (int[] way : w.ways(c)) {
            set |= 1 << way[m];
        }
        return set;
    }

    long who(int culprit, int part) {
        if (!w.isKid(culprit) && (culprit < 4 || culprit > 6)) {
            return noLong(-1);
        }
        if (part < 0 || part > 1) {
            return noLong(-2);
        }
        return leastTerms(w.part(1 << culprit), part);
    }

    long likeliest() {
        int best = -9;
        BigInteger[] most = {BigInteger.ZERO, BigInteger.ONE};
        for (int i = 0; i < 7; i++) {
            BigInteger[] one = w.weight(i);
            if (one[0].multiply(most[1]).compareTo(most[0].multiply(one[1])) > 0) {
                best = i;
                most = one;
            }
        }
        return best;
    }

    long says(int speaker, int c, int m, int r) {
        if (!w.isKid(speaker) || !w.isKid(c) || !w.isMinute(m) || !w.isRoom(r)) {
            return no(-1);
        }
        if (w.sayings.size() == 8) {
            return no(-6);
        }
        w.sayings.add(new int[] {speaker, c, m, r});
        return w.sayings.size() - 1;
    }

    long hush() {
        int n = w.sayings.size();
        w.sayings.clear();
        return n;
    }

    long holds(int i) {
        if (i < 0 || i >= w.sayings.size()) {
            return no(-1);
        }
        int[] s = w.sayings.get(i);
        return w.passing(s[1], s[2], s[3]);
    }

    long together(int set) {
        if (set < 0 || set >= 1 << w.sayings.size()) {
            return no(-1);
        }
        return w.together(set) ? 1 : 0;
    }

    long most(int what) {
        if (what < 0 || what > 3) {
            return no(-2);
        }
        int n = w.sayings.size();
        int most = 0;
        int first = 0;
        int inSome = 0;
        for (int set = 0; set < 1 << n; set++) {
            int size = Integer.bitCount(set);
            if (size >= most && w.together(set)) {
                if (size > most) {
                    most = size;
                    first = set;
                    inSome = 0;
                }
                inSome |= set;
            }
        }
        int liars = 0;
        int must = 0;
        for (int i = 0; i < n; i++) {
            int[] s = w.sayings.get(i);
            liars |= w.passing(s[1], s[2], s[3]) == 0 ? 1 << s[0] : 0;
            must |= (inSome & 1 << i) == 0 ? 1 << s[0] : 0;
        }
        return new int[] {most, first, liars, must}[what];
    }

    long ask(int speaker, int c, int m, int what) {
        if (!w.isKid(speaker) || !w.isKid(c) || !w.isMinute(m)) {
            return no(-1);
        }
        if (what < 0 || what > 2) {
            return no(-2);
        }
        int says = w.says(speaker, c, m);
        if (what == 0) {
            return says;
        }
        if (says == -9) {
            return 0;
        }
        if (what == 1) {
            return says == w.kids.get(c).truly[m] ? 1 : 0;
        }
        return w.passing(c, m, says) == 0 ? 1 : 0;
    }

    long first() {
        int best = -9;
        long over = 0;
        long under = 1;
        for (int c = 0; c < w.kids.size(); c++) {
            for (int m = 0; m < w.minutes; m++) {
                long left = 0;
                for (int r = 0; r < w.rooms; r++) {
                    left = Math.max(left, w.passing(c, m, r));
                }
                long all = w.ways(c).size();
                if (best == -9 || left * under < over * all) {
                    best = 10 * c + m;
                    over = left;
                    under = all;
                }
            }
        }
        return best;
    }

    long tale(int n, int what) {
        if (n < 0) {
            return no(-4);
        }
        if (n > 99) {
            return no(-6);
        }
        if (what < 0 || what > 1) {
            return no(-2);
        }
        List<int[]> points = new ArrayList<>();
        for (int c = 0; c < w.kids.size(); c++) {
            points.add(new int[] {10 * c + w.deedMinute, 5});
        }
        for (int m = 0; m < w.minutes; m++) {
            for (int c = 0; c < w.kids.size() && m != w.deedMinute; c++) {
                points.add(new int[] {10 * c + m, 2});
            }
        }
        int fixed = 0;
        int used = 0;
        while (fixed < points.size() && used + points.get(fixed)[1] <= n) {
            used += points.get(fixed)[1];
            fixed++;
        }
        return what == 0 ? fixed : fixed == points.size() ? -9 : points.get(fixed)[0];
    }

    long lasts(int n, int part) {
        if (n < 0) {
            return noLong(-4);
        }
        if (n > 4) {
            return noLong(-6);
        }
        if (part < 0 || part > 1) {
            return noLong(-2);
        }
        BigInteger[] f = {BigInteger.ONE, BigInteger.ONE};
        for (int c = 0; c < w.kids.size(); c++) {
            f[0] = f[0].multiply(BigInteger.valueOf(10 - w.slips(c)).pow(n));
            f[1] = f[1].multiply(BigInteger.TEN.pow(n));
        }
        return leastTerms(f, part);
    }

    long half() {
        int left = 10000;
        int week = 0;
        while (week < 99) {
            week++;
            for (int c = 0; c < w.kids.size(); c++) {
                left = left * (10 - w.slips(c)) / 10;
            }
            if (left < 5000) {
                return week;
            }
        }
        return -9;
    }

    long law(int doer, int law, int v, int what) {
        if (!w.isKid(doer)) {
            return no(-1);
        }
        if (law < 0 || law > 3) {
            return no(-2);
        }
        if (v < 0) {
            return no(-4);
        }
        if (v > 99) {
            return no(-6);
        }
        switch (what) {
            case 0: return w.pays(doer, law, v, true);
            case 1: return w.pays(doer, law, v, false);
            case 2: return w.owns(doer, law, v) ? 1 : 0;
            case 3: return w.innocent(doer, law, v);
            default: return no(-2);
        }
    }

    long byLaws(int doer, int v) {
        if (!w.isKid(doer)) {
            return no(-1);
        }
        if (v < 0) {
            return no(-4);
        }
        if (v > 99) {
            return no(-6);
        }
        int set = 0;
        for (int law = 0; law < 4; law++) {
            set |= w.owns(doer, law, v) ? 1 << law : 0;
        }
        return set;
    }

    long old(int dust, int m, int d, int what) {
        if (dust < 0 || m < 1 || d < 0) {
            return no(-4);
        }
        if (dust > 999 || m > 99 || d > 9) {
            return no(-6);
        }
        if (what < 0 || what > 1) {
            return no(-2);
        }
        int months = 0;
        int grains = what == 0 ? dust - d : dust + d;
        while (grains >= m) {
            grains -= m;
            months++;
        }
        return months;
    }

    long punish(int s) {
        return s < 0 ? no(-4) : s > 10 ? no(-6) : w.punished(s);
    }

    long missed(int s, int part) {
        if (s < 0) {
            return noLong(-4);
        }
        if (s > 10) {
            return noLong(-6);
        }
        if (part < 0 || part > 1) {
            return noLong(-2);
        }
        return leastTerms(w.part(127 & ~w.punished(s)), part);
    }

    long learn(int n, int law, int v) {
        if (n < 1 || v < 0) {
            return no(-4);
        }
        if (n > 20 || v > 99) {
            return no(-6);
        }
        if (law < 0 || law > 3) {
            return no(-2);
        }
        World mind = w.copy();
        for (int year = 0; year < n; year++) {
            for (int c = 0; c < mind.kids.size(); c++) {
                Kid k = mind.kids.get(c);
                k.skill = mind.owns(c, law, v) ? Math.max(0, k.skill - 1) : Math.min(9, k.skill + 1);
            }
        }
        return mind.kids.stream().mapToInt(k -> k.skill).sum();
    }

    long row(int v) {
        if (v < 0) {
            return no(-4);
        }
        if (v > 9 || row.size() == 12) {
            return no(-6);
        }
        row.add(v);
        return row.size();
    }

    long judge() {
        List<Integer> said = new ArrayList<>(row);
        row.clear();
        for (int i = 0; i < said.size(); i += 3) {
            if (i + 2 >= said.size()) {
                return i;
            }
            for (int k = i; k < i + 2; k++) {
                if (!w.isKid(said.get(k))) {
                    return k;
                }
            }
            int says = w.says(said.get(i), said.get(i + 1), w.deedMinute);
            if (said.get(i + 2) != (says == -9 ? 9 : says)) {
                return i + 2;
            }
        }
        return -9;
    }

    private int z;

    private int draw(int n) {
        z = (int) (z * 1103515245L + 12345L);
        return (int) ((z & 0xffffffffL) % 0x80000000L / 65536 % n);
    }

    long seeds(int n, int seed, int what) {
        if (n < 1) {
            return no(-4);
        }
        if (n > 20) {
            return no(-6);
        }
        if (what < 0 || what > 1) {
            return no(-2);
        }
        z = seed;
        int alone = 0;
        int together = 0;
        for (int t = 0; t < n; t++) {
            int there = 0;
            for (int c = 0; c < w.kids.size(); c++) {
                int[] way = new int[w.minutes];
                way[0] = draw(w.rooms);
                for (int m = 1; m < w.minutes; m++) {
                    List<Integer> next = w.neighbours(way[m - 1]);
                    int k = draw(next.size() + 1);
                    way[m] = k == 0 ? way[m - 1] : next.get(k - 1);
                }
                there += way[w.deedMinute] == w.deedRoom ? 1 : 0;
            }
            together += there;
            alone += there == 1 ? 1 : 0;
        }
        return what == 0 ? alone : together;
    }

    long image() {
        image = w.copy();
        return w.facts.size();
    }

    long restore() {
        if (image == null) {
            return no(-3);
        }
        w = image.copy();
        return w.facts.size();
    }

    long count(int what) {
        switch (what) {
            case 0: return w.rooms;
            case 1: return w.minutes;
            case 2: return w.kids.size();
            case 3: return w.doors();
            case 4: return w.facts.size();
            case 5: return w.sayings.size();
            case 6: return 10 * w.deedRoom + w.deedMinute;
            case 7: return letters.length();
            case 8: return row.size();
            case 9: return w.kids.stream().mapToInt(k -> k.skill).sum();
            default: return what < 11 || what > 16 ? -9 : refused[what - 10];
        }
    }
}
