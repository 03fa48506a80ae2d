/**
 * A vase broke in a house of children: where each can have been, what each says of it, who may have done it.
 * The words are those of the document; an answer below 0 that is a refusal is counted.
 */
public final class ItWasLikeThat {
    private static final int NOBODY = -1;
    private static final int OTHER = -2;
    private static final int STATE = -3;
    private static final int BELOW = -4;
    private static final int ABOVE = -6;
    private static final int NOTHING = -9;
    private static final long LONG_REFUSAL = 4000000000000000000L;

    private static final int MOST_ROOMS = 4;
    private static final int MOST_MINUTES = 6;
    private static final int MOST_CHILDREN = 4;
    private static final int MOST_FACTS = 16;
    private static final int MOST_SAYINGS = 8;
    private static final int MOST_LETTERS = 96;
    private static final int MOST_NUMBERS = 12;
    private static final int CAT = 4;
    private static final int CULPRITS = 7;
    private static final int LAWS = 4;
    private static final int MOST_PENALTY = 99;
    private static final int MOST_SKILL = 9;

    private final House now;
    private final House kept;
    private boolean isKept;
    private final Letters letters;
    private final Ways paths;
    private final Odds odds;
    private final int[] numbers;
    private int numbersIn;
    private final int[] refusals;

    public ItWasLikeThat() {
        now = new House();
        kept = new House();
        isKept = false;
        letters = new Letters();
        paths = new Ways();
        odds = new Odds();
        numbers = new int[MOST_NUMBERS];
        numbersIn = 0;
        refusals = new int[7];
    }

    public int feed(int letter) {
        if (letter < 0) {
            return refuse(BELOW);
        }
        if (letter > 255 || letters.isFull()) {
            return refuse(ABOVE);
        }
        return letters.add(letter);
    }

    public int house() {
        int answer = letters.readOnto(now, paths);
        if (answer > 0) {
            now.copyFrom(letters.read());
        }
        letters.clear();
        return answer;
    }

    public int child(int child, int what) {
        if (!now.hasChild(child)) {
            return refuse(NOBODY);
        }
        switch (what) {
            case 0:
                return now.kindOf(child);
            case 1:
                return now.figureOf(child);
            case 2:
                return now.tieOf(child);
            case 3:
                return now.skillOf(child);
            case 4:
                return now.guiltOf(child);
            case 5:
                return now.slipsOf(child);
            default:
                return refuse(OTHER);
        }
    }

    public int was(int child, int minute) {
        if (!now.hasChild(child) || !now.hasMinute(minute)) {
            return refuse(NOBODY);
        }
        return now.placeOf(child, minute);
    }

    public int door(int one, int other) {
        if (!now.hasRoom(one) || !now.hasRoom(other) || one == other) {
            return refuse(NOBODY);
        }
        return bit(now.isStep(one, other));
    }

    public int deed(int room, int minute) {
        if (!now.hasRoom(room) || !now.hasMinute(minute)) {
            return refuse(NOBODY);
        }
        int before = now.deedInOne();
        now.putDeed(room, minute);
        return before;
    }

    public int fact(int child, int minute, int room, int is) {
        if (!isPoint(child, minute) || !now.hasRoom(room)) {
            return refuse(NOBODY);
        }
        if (!isZeroOrOne(is)) {
            return refuse(OTHER);
        }
        if (now.facts >= MOST_FACTS) {
            return refuse(ABOVE);
        }
        now.addFact(child, minute, room, is);
        if (!paths.someFor(now, child)) {
            now.dropFact();
            return refuse(STATE);
        }
        return now.facts;
    }

    public int unfact() {
        if (now.facts == 0) {
            return refuse(STATE);
        }
        now.dropFact();
        return now.facts;
    }

    public int chance(int culprit, int v) {
        if (culprit < CAT || culprit >= CULPRITS) {
            return refuse(NOBODY);
        }
        if (v < 0) {
            return refuse(BELOW);
        }
        if (v > 99) {
            return refuse(ABOVE);
        }
        int before = now.chanceOf(culprit);
        now.putChance(culprit, v);
        return before;
    }

    public int ways(int child, int what) {
        if (!now.hasChild(child)) {
            return refuse(NOBODY);
        }
        if (!isZeroOrOne(what)) {
            return refuse(OTHER);
        }
        paths.look(now, child);
        return what == 0 ? paths.all() : paths.through(now.deedMinute, now.deedRoom);
    }

    public int can(int what) {
        if (!isZeroOrOne(what)) {
            return refuse(OTHER);
        }
        int found = 0;
        for (int c = 0; c < now.children; c++) {
            paths.look(now, c);
            int there = paths.through(now.deedMinute, now.deedRoom);
            if (there > 0 && (what == 0 || there == paths.all())) {
                found |= 1 << c;
            }
        }
        return found;
    }

    public int where(int child, int minute) {
        if (!isPoint(child, minute)) {
            return refuse(NOBODY);
        }
        paths.look(now, child);
        int found = 0;
        for (int r = 0; r < now.rooms; r++) {
            if (paths.through(minute, r) > 0) {
                found |= 1 << r;
            }
        }
        return found;
    }

    public long who(int culprit, int part) {
        if (!now.hasChild(culprit) && (culprit < CAT || culprit >= CULPRITS)) {
            return refuseLong(NOBODY);
        }
        if (!isZeroOrOne(part)) {
            return refuseLong(OTHER);
        }
        odds.weigh(now, paths);
        return odds.shareOf(culprit, part);
    }

    public int likeliest() {
        odds.weigh(now, paths);
        return odds.heaviest();
    }

    public int says(int speaker, int child, int minute, int room) {
        if (!now.hasChild(speaker) || !isPoint(child, minute) || !now.hasRoom(room)) {
            return refuse(NOBODY);
        }
        if (now.sayings >= MOST_SAYINGS) {
            return refuse(ABOVE);
        }
        now.addSaying(speaker, child, minute, room);
        return now.sayings - 1;
    }

    public int hush() {
        int before = now.sayings;
        now.sayings = 0;
        return before;
    }

    public int holds(int saying) {
        if (saying < 0 || saying >= now.sayings) {
            return refuse(NOBODY);
        }
        return paths.leftBy(now, saying);
    }

    public int together(int set) {
        if (set >>> now.sayings != 0) {
            return refuse(NOBODY);
        }
        return bit(paths.allAgree(now, set));
    }

    public int most(int what) {
        switch (what) {
            case 0:
                return Integer.bitCount(paths.largestSet(now));
            case 1:
                return paths.largestSet(now);
            case 2:
                return paths.liars(now);
            case 3:
                return paths.mustLie(now);
            default:
                return refuse(OTHER);
        }
    }

    public int ask(int speaker, int child, int minute, int what) {
        if (!now.hasChild(speaker) || !isPoint(child, minute)) {
            return refuse(NOBODY);
        }
        int told = now.told(speaker, child, minute);
        switch (what) {
            case 0:
                return told;
            case 1:
                return bit(told == now.placeOf(child, minute));
            case 2:
                paths.look(now, child);
                return bit(told != NOTHING && paths.through(minute, told) == 0);
            default:
                return refuse(OTHER);
        }
    }

    public int first() {
        int best = NOTHING;
        int bestLeft = 0;
        int bestAll = 1;
        for (int c = 0; c < now.children; c++) {
            paths.look(now, c);
            int all = paths.all();
            for (int m = 0; m < now.minutes; m++) {
                int left = paths.mostLeftAt(m);
                if (best == NOTHING || left * bestAll < bestLeft * all) {
                    best = 10 * c + m;
                    bestLeft = left;
                    bestAll = all;
                }
            }
        }
        return best;
    }

    public int tale(int n, int what) {
        if (n < 0) {
            return refuse(BELOW);
        }
        if (n > 99) {
            return refuse(ABOVE);
        }
        if (!isZeroOrOne(what)) {
            return refuse(OTHER);
        }
        return Pact.agreed(now, n, what);
    }

    public long lasts(int n, int part) {
        if (n < 0) {
            return refuseLong(BELOW);
        }
        if (n > 4) {
            return refuseLong(ABOVE);
        }
        if (!isZeroOrOne(part)) {
            return refuseLong(OTHER);
        }
        return Pact.unbroken(now, n, part);
    }

    public int half() {
        return Pact.weeksToHalf(now);
    }

    public int law(int doer, int law, int v, int what) {
        if (!now.hasChild(doer)) {
            return refuse(NOBODY);
        }
        if (!isLaw(law)) {
            return refuse(OTHER);
        }
        if (v < 0) {
            return refuse(BELOW);
        }
        if (v > MOST_PENALTY) {
            return refuse(ABOVE);
        }
        int namers = now.namersOf(doer);
        switch (what) {
            case 0:
                return Pact.owningUp(law, v);
            case 1:
                return Pact.denying(law, v, namers, now.children);
            case 2:
                return bit(Pact.ownsUp(law, v, namers, now.children));
            case 3:
                return Pact.othersPay(law, v, namers, now.children);
            default:
                return refuse(OTHER);
        }
    }

    public int byLaws(int doer, int v) {
        if (!now.hasChild(doer)) {
            return refuse(NOBODY);
        }
        if (v < 0) {
            return refuse(BELOW);
        }
        if (v > MOST_PENALTY) {
            return refuse(ABOVE);
        }
        int namers = now.namersOf(doer);
        int found = 0;
        for (int law = 0; law < LAWS; law++) {
            if (Pact.ownsUp(law, v, namers, now.children)) {
                found |= 1 << law;
            }
        }
        return found;
    }

    public int old(int dust, int m, int d, int what) {
        if (dust < 0 || m < 1 || d < 0) {
            return refuse(BELOW);
        }
        if (dust > 999 || m > 99 || d > 9) {
            return refuse(ABOVE);
        }
        if (!isZeroOrOne(what)) {
            return refuse(OTHER);
        }
        return what == 0 ? Math.max(0, dust - d) / m : (dust + d) / m;
    }

    public int punish(int s) {
        if (s < 0) {
            return refuse(BELOW);
        }
        if (s > 10) {
            return refuse(ABOVE);
        }
        odds.weigh(now, paths);
        return odds.punishedFrom(s, now.children);
    }

    public long missed(int s, int part) {
        if (s < 0) {
            return refuseLong(BELOW);
        }
        if (s > 10) {
            return refuseLong(ABOVE);
        }
        if (!isZeroOrOne(part)) {
            return refuseLong(OTHER);
        }
        odds.weigh(now, paths);
        return odds.shareBeside(odds.punishedFrom(s, now.children), part);
    }

    public int learn(int n, int law, int v) {
        if (n < 1 || v < 0) {
            return refuse(BELOW);
        }
        if (n > 20 || v > MOST_PENALTY) {
            return refuse(ABOVE);
        }
        if (!isLaw(law)) {
            return refuse(OTHER);
        }
        int sum = 0;
        for (int c = 0; c < now.children; c++) {
            // Whether one owns up does not hang on SKILL, so the years of each can be gone through alone.
            boolean owns = Pact.ownsUp(law, v, now.namersOf(c), now.children);
            sum += Pact.skillBehind(n, now.skillOf(c), owns);
        }
        return sum;
    }

    public int row(int v) {
        if (v < 0) {
            return refuse(BELOW);
        }
        if (v > 9 || numbersIn >= MOST_NUMBERS) {
            return refuse(ABOVE);
        }
        numbers[numbersIn] = v;
        numbersIn++;
        return numbersIn;
    }

    public int judge() {
        int in = numbersIn;
        int whole = in - in % 3;
        numbersIn = 0;
        for (int at = 0; at < whole; at++) {
            if (!canBeInRow(at)) {
                return at;
            }
        }
        return whole == in ? NOTHING : whole;
    }

    public int seeds(int n, int z, int what) {
        if (n < 1) {
            return refuse(BELOW);
        }
        if (n > 20) {
            return refuse(ABOVE);
        }
        if (!isZeroOrOne(what)) {
            return refuse(OTHER);
        }
        return Ways.drawn(now, n, z, what);
    }

    public int image() {
        kept.copyFrom(now);
        isKept = true;
        return now.facts;
    }

    public int restore() {
        if (!isKept) {
            return refuse(STATE);
        }
        now.copyFrom(kept);
        return now.facts;
    }

    public int count(int what) {
        switch (what) {
            case 0:
                return now.rooms;
            case 1:
                return now.minutes;
            case 2:
                return now.children;
            case 3:
                return now.doorsInAll();
            case 4:
                return now.facts;
            case 5:
                return now.sayings;
            case 6:
                return now.deedInOne();
            case 7:
                return letters.howMany();
            case 8:
                return numbersIn;
            case 9:
                return now.skillsInAll();
            default:
                return what >= 11 && what <= 16 ? refusals[what - 10] : NOTHING;
        }
    }

    private int refuse(int code) {
        int at = -code;
        if (at > 0 && at < refusals.length) {
            refusals[at]++;
        }
        return code;
    }

    private long refuseLong(int code) {
        return LONG_REFUSAL - refuse(code);
    }

    private boolean isPoint(int child, int minute) {
        return now.hasChild(child) && now.hasMinute(minute);
    }

    /** The numbers ahead of it in its three must be as they can be. */
    private boolean canBeInRow(int at) {
        if (at < 0 || at >= numbers.length) {
            return false;
        }
        int place = at % 3;
        if (place < 2) {
            return now.hasChild(numbers[at]);
        }
        int told = now.told(numbers[at - 2], numbers[at - 1], now.deedMinute);
        return numbers[at] == (told == NOTHING ? 9 : told);
    }

    private static boolean isZeroOrOne(int what) {
        return what == 0 || what == 1;
    }

    private static boolean isLaw(int law) {
        return law >= 0 && law < LAWS;
    }

    private static int bit(boolean is) {
        return is ? 1 : 0;
    }

    /** A CHILD as such; the other KINDS stand under it as the document has them. */
    private static class Child {
        int guilt() {
            return 5;
        }

        int slipsBy(int figure) {
            return 2;
        }

        boolean covers(House house, int me, int of) {
            return of == me;
        }

        int tells(House house, int me, int of, int minute) {
            int truth = house.placeOf(of, minute);
            if (covers(house, me, of) && house.isDeed(truth, minute)) {
                return house.roomBehind(truth);
            }
            return truth;
        }
    }

    private static class Small extends Child {
        int guilt() {
            return super.guilt() + 1;
        }

        int slipsBy(int figure) {
            return super.slipsBy(figure) + 4;
        }

        boolean covers(House house, int me, int of) {
            return false;
        }
    }

    private static class Loyal extends Child {
        int guilt() {
            return super.guilt() - 2;
        }

        int slipsBy(int figure) {
            return super.slipsBy(figure) - 1;
        }

        boolean covers(House house, int me, int of) {
            return of == me || of == house.tieOf(me);
        }
    }

    private static final class Bought extends Loyal {
        int slipsBy(int figure) {
            return super.slipsBy(figure) + figure / 2;
        }

        int tells(House house, int me, int of, int minute) {
            if (minute == house.deedMinute && house.figureOf(me) > 4 && !covers(house, me, of)) {
                return house.deedRoom;
            }
            return super.tells(house, me, of, minute);
        }
    }

    private static final class Bold extends Child {
        int guilt() {
            return super.guilt() + 3;
        }

        int slipsBy(int figure) {
            return super.slipsBy(figure) + 1;
        }

        boolean covers(House house, int me, int of) {
            return false;
        }

        int tells(House house, int me, int of, int minute) {
            if (of != me && minute == house.deedMinute && house.figureOf(me) % 2 != 0) {
                return house.deedRoom;
            }
            return super.tells(house, me, of, minute);
        }
    }

    private static final class Silent extends Small {
        int slipsBy(int figure) {
            return super.slipsBy(figure) / 2;
        }

        int tells(House house, int me, int of, int minute) {
            return minute == house.deedMinute ? NOTHING : super.tells(house, me, of, minute);
        }
    }

    /** All that THE IMAGE holds; its rows are made once, so that a copy makes nothing new. */
    private static final class House {
        int rooms;
        int minutes;
        int children;
        int deedRoom;
        int deedMinute;
        int facts;
        int sayings;
        private final int[] doors;
        private final int[] kinds;
        private final int[] figures;
        private final int[] ties;
        private final int[] skills;
        private final int[] places;
        private final int[] chances;
        private final int[] factMarks;
        private final int[] sayingMarks;
        private final Child[] natures;

        House() {
            rooms = 3;
            minutes = 4;
            doors = new int[MOST_ROOMS];
            kinds = new int[MOST_CHILDREN];
            figures = new int[MOST_CHILDREN];
            ties = new int[MOST_CHILDREN];
            skills = new int[MOST_CHILDREN];
            places = new int[MOST_CHILDREN * MOST_MINUTES];
            chances = new int[] {2, 1, 1};
            factMarks = new int[MOST_FACTS];
            sayingMarks = new int[MOST_SAYINGS];
            natures = new Child[] {
                new Child(), new Small(), new Loyal(), new Bought(), new Bold(), new Silent()
            };
        }

        void copyFrom(House other) {
            if (other == null) {
                return;
            }
            rooms = other.rooms;
            minutes = other.minutes;
            children = other.children;
            deedRoom = other.deedRoom;
            deedMinute = other.deedMinute;
            facts = other.facts;
            sayings = other.sayings;
            System.arraycopy(other.doors, 0, doors, 0, MOST_ROOMS);
            System.arraycopy(other.kinds, 0, kinds, 0, MOST_CHILDREN);
            System.arraycopy(other.figures, 0, figures, 0, MOST_CHILDREN);
            System.arraycopy(other.ties, 0, ties, 0, MOST_CHILDREN);
            System.arraycopy(other.skills, 0, skills, 0, MOST_CHILDREN);
            System.arraycopy(other.places, 0, places, 0, MOST_CHILDREN * MOST_MINUTES);
            System.arraycopy(other.chances, 0, chances, 0, CULPRITS - CAT);
            System.arraycopy(other.factMarks, 0, factMarks, 0, MOST_FACTS);
            System.arraycopy(other.sayingMarks, 0, sayingMarks, 0, MOST_SAYINGS);
        }

        boolean hasRoom(int room) {
            return room >= 0 && room < rooms;
        }

        boolean hasMinute(int minute) {
            return minute >= 0 && minute < minutes;
        }

        boolean hasChild(int child) {
            return child >= 0 && child < children;
        }

        boolean isDeed(int room, int minute) {
            return room == deedRoom && minute == deedMinute;
        }

        int deedInOne() {
            return 10 * deedRoom + deedMinute;
        }

        int roomBehind(int room) {
            return room + 1 < rooms ? room + 1 : 0;
        }

        void putDeed(int room, int minute) {
            deedRoom = room;
            deedMinute = minute;
        }

        static boolean canBuild(int rooms, int minutes) {
            return rooms >= 2 && rooms <= MOST_ROOMS && minutes >= 2 && minutes <= MOST_MINUTES;
        }

        /** The CHANCES stay: an "r" tells nothing of them. */
        void build(int newRooms, int newMinutes) {
            rooms = newRooms;
            minutes = newMinutes;
            children = 0;
            facts = 0;
            putDeed(0, 0);
            for (int r = 0; r < MOST_ROOMS; r++) {
                doors[r] = 0;
            }
        }

        void turnDoor(int one, int other) {
            if (hasRoom(one) && hasRoom(other) && one != other) {
                doors[one] ^= 1 << other;
                doors[other] ^= 1 << one;
            }
        }

        boolean isStep(int from, int to) {
            return hasRoom(from) && hasRoom(to) && (from == to || (doors[from] >> to & 1) == 1);
        }

        /** The ROOMS (bits) in which one can be a MINUTE on. */
        int stepsOf(int room) {
            return room >= 0 && room < doors.length ? doors[room] | 1 << room : 0;
        }

        int doorsOf(int room) {
            return hasRoom(room) ? Integer.bitCount(doors[room]) : 0;
        }

        int doorsInAll() {
            int ends = 0;
            for (int r = 0; r < rooms; r++) {
                ends += doorsOf(r);
            }
            return ends / 2;
        }

        /** 0 stays where it is; else the so manyth ROOM next to it. */
        int roomAfter(int room, int step) {
            int left = step;
            for (int r = 0; r < rooms; r++) {
                if (r != room && isStep(room, r)) {
                    left--;
                    if (left == 0) {
                        return r;
                    }
                }
            }
            return room;
        }

        boolean addChild(int kind, int figure, int tie) {
            if (children >= MOST_CHILDREN || kind < 0 || kind >= natures.length || tie >= MOST_CHILDREN) {
                return false;
            }
            int child = children;
            children++;
            kinds[child] = kind;
            figures[child] = figure;
            ties[child] = tie;
            skills[child] = 0;
            for (int m = 0; m < MOST_MINUTES; m++) {
                places[child * MOST_MINUTES + m] = 0;
            }
            return true;
        }

        int kindOf(int child) {
            return child >= 0 && child < kinds.length ? kinds[child] : 0;
        }

        int figureOf(int child) {
            return child >= 0 && child < figures.length ? figures[child] : 0;
        }

        int tieOf(int child) {
            return child >= 0 && child < ties.length ? ties[child] : 0;
        }

        int skillOf(int child) {
            return child >= 0 && child < skills.length ? skills[child] : 0;
        }

        int skillsInAll() {
            int sum = 0;
            for (int c = 0; c < children; c++) {
                sum += skillOf(c);
            }
            return sum;
        }

        private Child natureOf(int child) {
            int kind = kindOf(child);
            return kind >= 0 && kind < natures.length ? natures[kind] : natures[0];
        }

        int guiltOf(int child) {
            return natureOf(child).guilt();
        }

        int slipsOf(int child) {
            int slips = natureOf(child).slipsBy(figureOf(child)) - skillOf(child) / 3;
            return Math.max(0, Math.min(9, slips));
        }

        int placeOf(int child, int minute) {
            return hasChild(child) && hasMinute(minute) ? places[child * MOST_MINUTES + minute] : NOTHING;
        }

        void putPlace(int child, int minute, int room) {
            if (hasChild(child) && hasMinute(minute)) {
                places[child * MOST_MINUTES + minute] = room;
            }
        }

        int told(int speaker, int of, int minute) {
            if (!hasChild(speaker) || !hasChild(of) || !hasMinute(minute)) {
                return NOTHING;
            }
            return natureOf(speaker).tells(this, speaker, of, minute);
        }

        int namersOf(int doer) {
            int namers = 0;
            for (int c = 0; c < children; c++) {
                if (c != doer && told(c, doer, deedMinute) == deedRoom) {
                    namers++;
                }
            }
            return namers;
        }

        int chanceOf(int culprit) {
            return culprit >= CAT && culprit < CULPRITS ? chances[culprit - CAT] : 0;
        }

        void putChance(int culprit, int v) {
            if (culprit >= CAT && culprit < CULPRITS) {
                chances[culprit - CAT] = v;
            }
        }

        boolean addFact(int child, int minute, int room, int is) {
            if (facts < 0 || facts >= MOST_FACTS) {
                return false;
            }
            factMarks[facts] = mark(child, minute, room, is);
            facts++;
            return true;
        }

        void dropFact() {
            facts = Math.max(0, facts - 1);
        }

        int factAt(int at) {
            return at >= 0 && at < facts ? factMarks[at] : 0;
        }

        void addSaying(int speaker, int child, int minute, int room) {
            if (sayings >= 0 && sayings < MOST_SAYINGS) {
                sayingMarks[sayings] = mark(child, minute, room, speaker);
                sayings++;
            }
        }

        int sayingAt(int at) {
            return at >= 0 && at < sayings ? sayingMarks[at] : 0;
        }

        /** A FACT (more: is) or a SAYING (more: its speaker) in one number, so that a row of them is one array. */
        private static int mark(int child, int minute, int room, int more) {
            return child << 9 | minute << 6 | room << 3 | more;
        }

        static int childIn(int mark) {
            return mark >> 9 & 7;
        }

        static int minuteIn(int mark) {
            return mark >> 6 & 7;
        }

        static int roomIn(int mark) {
            return mark >> 3 & 7;
        }

        static int moreIn(int mark) {
            return mark & 7;
        }
    }

    /** Counts WAYS without going them one by one: by how many one comes to a ROOM, and by how many on from it. */
    private static final class Ways {
        private final int[] open;
        private final int[] steps;
        private final int[] upTo;
        private final int[] onFrom;
        private final boolean[] agreeing;
        private int rooms;
        private int minutes;

        Ways() {
            open = new int[MOST_MINUTES];
            steps = new int[MOST_ROOMS];
            upTo = new int[MOST_MINUTES * MOST_ROOMS];
            onFrom = new int[MOST_MINUTES * MOST_ROOMS];
            agreeing = new boolean[1 << MOST_SAYINGS];
        }

        void look(House house, int child) {
            openByFacts(house, child);
            sum(upTo, 0, 1);
            sum(onFrom, minutes - 1, -1);
        }

        boolean someFor(House house, int child) {
            openByFacts(house, child);
            sum(upTo, 0, 1);
            return all() > 0;
        }

        private void openByFacts(House house, int child) {
            rooms = house.rooms;
            minutes = house.minutes;
            for (int r = 0; r < MOST_ROOMS; r++) {
                steps[r] = house.stepsOf(r);
            }
            for (int m = 0; m < MOST_MINUTES; m++) {
                open[m] = (1 << rooms) - 1;
            }
            for (int f = 0; f < house.facts; f++) {
                int mark = house.factAt(f);
                if (House.childIn(mark) == child) {
                    int room = 1 << House.roomIn(mark);
                    narrow(House.minuteIn(mark), House.moreIn(mark) == 1 ? room : ~room);
                }
            }
        }

        private void openBySayings(House house, int child, int set) {
            for (int s = 0; s < house.sayings; s++) {
                int mark = house.sayingAt(s);
                if ((set >> s & 1) == 1 && House.childIn(mark) == child) {
                    narrow(House.minuteIn(mark), 1 << House.roomIn(mark));
                }
            }
        }

        private void narrow(int minute, int to) {
            if (minute >= 0 && minute < MOST_MINUTES) {
                open[minute] &= to;
            }
        }

        /** A step of -1 goes from the last MINUTE back. */
        private void sum(int[] counts, int begin, int step) {
            for (int i = 0; i < minutes; i++) {
                int m = begin + i * step;
                for (int r = 0; r < rooms; r++) {
                    int at = m * MOST_ROOMS + r;
                    if (m >= 0 && m < open.length && at < counts.length) {
                        counts[at] = i == 0 ? 1 : sumNextTo(counts, m - step, r);
                        counts[at] *= open[m] >> r & 1;
                    }
                }
            }
        }

        private int sumNextTo(int[] counts, int minute, int room) {
            int sum = 0;
            int near = room >= 0 && room < steps.length ? steps[room] : 0;
            for (int r = 0; r < rooms; r++) {
                int at = minute * MOST_ROOMS + r;
                if (at >= 0 && at < counts.length && (near >> r & 1) == 1) {
                    sum += counts[at];
                }
            }
            return sum;
        }

        int all() {
            int sum = 0;
            for (int r = 0; r < rooms; r++) {
                int at = (minutes - 1) * MOST_ROOMS + r;
                if (at >= 0 && at < upTo.length) {
                    sum += upTo[at];
                }
            }
            return sum;
        }

        int through(int minute, int room) {
            if (minute < 0 || minute >= minutes || room < 0 || room >= rooms) {
                return 0;
            }
            int at = minute * MOST_ROOMS + room;
            return at < upTo.length && at < onFrom.length ? upTo[at] * onFrom[at] : 0;
        }

        int mostLeftAt(int minute) {
            int greatest = 0;
            for (int r = 0; r < rooms; r++) {
                greatest = Math.max(greatest, through(minute, r));
            }
            return greatest;
        }

        int leftBy(House house, int saying) {
            int mark = house.sayingAt(saying);
            look(house, House.childIn(mark));
            return through(House.minuteIn(mark), House.roomIn(mark));
        }

        private boolean agree(House house, int child, int set) {
            openByFacts(house, child);
            openBySayings(house, child, set);
            sum(upTo, 0, 1);
            return all() > 0;
        }

        boolean allAgree(House house, int set) {
            for (int c = 0; c < house.children; c++) {
                if (!agree(house, c, set)) {
                    return false;
                }
            }
            return true;
        }

        /** Of a set whose rest holds TOGETHER, only the CHILD of its last SAYING is left to be looked at. */
        private void sortSets(House house) {
            agreeing[0] = true;
            int sets = Math.min(agreeing.length, 1 << house.sayings);
            for (int set = 1; set < sets; set++) {
                int last = 31 - Integer.numberOfLeadingZeros(set);
                int rest = set ^ 1 << last;
                agreeing[set] = agreeing[rest] && agree(house, House.childIn(house.sayingAt(last)), set);
            }
        }

        int largestSet(House house) {
            sortSets(house);
            int largest = 0;
            int sets = Math.min(agreeing.length, 1 << house.sayings);
            for (int set = 1; set < sets; set++) {
                if (agreeing[set] && Integer.bitCount(set) > Integer.bitCount(largest)) {
                    largest = set;
                }
            }
            return largest;
        }

        int mustLie(House house) {
            int size = Integer.bitCount(largestSet(house));
            int heard = 0;
            int sets = Math.min(agreeing.length, 1 << house.sayings);
            for (int set = 0; set < sets; set++) {
                if (agreeing[set] && Integer.bitCount(set) == size) {
                    heard |= set;
                }
            }
            int speakers = 0;
            for (int s = 0; s < house.sayings; s++) {
                if ((heard >> s & 1) == 0) {
                    speakers |= 1 << House.moreIn(house.sayingAt(s));
                }
            }
            return speakers;
        }

        int liars(House house) {
            int speakers = 0;
            for (int s = 0; s < house.sayings; s++) {
                if (leftBy(house, s) == 0) {
                    speakers |= 1 << House.moreIn(house.sayingAt(s));
                }
            }
            return speakers;
        }

        /** SEEDS: no FACTS bind these. */
        static int drawn(House house, int times, int seed, int what) {
            int z = seed;
            int alone = 0;
            int inAll = 0;
            for (int t = 0; t < times; t++) {
                int there = 0;
                for (int c = 0; c < house.children; c++) {
                    int room = 0;
                    for (int m = 0; m < house.minutes; m++) {
                        z = z * 1103515245 + 12345;
                        room = m == 0
                            ? drawBelow(z, house.rooms)
                            : house.roomAfter(room, drawBelow(z, house.doorsOf(room) + 1));
                        there += bit(house.isDeed(room, m));
                    }
                }
                inAll += there;
                alone += bit(there == 1);
            }
            return what == 0 ? alone : inAll;
        }

        private static int drawBelow(int z, int n) {
            return n > 0 ? (z & 0x7fffffff) / 65536 % n : 0;
        }
    }

    /** WHO over one common line below: the WAYS of all, 4096 to the 4th at most, times some hundreds: a long holds it. */
    private static final class Odds {
        private final long[] weights;
        private final int[] all;
        private final int[] there;
        private long total;

        Odds() {
            weights = new long[CULPRITS];
            all = new int[MOST_CHILDREN];
            there = new int[MOST_CHILDREN];
        }

        void weigh(House house, Ways paths) {
            long common = 1;
            for (int c = 0; c < MOST_CHILDREN; c++) {
                all[c] = 0;
                there[c] = 0;
                if (house.hasChild(c)) {
                    paths.look(house, c);
                    all[c] = paths.all();
                    there[c] = paths.through(house.deedMinute, house.deedRoom);
                }
                common *= Math.max(1, all[c]);
            }
            total = 0;
            for (int i = 0; i < CULPRITS; i++) {
                weights[i] = i < CAT ? weightOf(house, i, common) : house.chanceOf(i) * common;
                total += weights[i];
            }
        }

        private long weightOf(House house, int child, long common) {
            if (child < 0 || child >= MOST_CHILDREN || all[child] == 0) {
                return 0;
            }
            return common / all[child] * there[child] * house.guiltOf(child);
        }

        long shareOf(int culprit, int part) {
            long weight = culprit >= 0 && culprit < CULPRITS ? weights[culprit] : 0;
            return inLeastTerms(weight, total, part);
        }

        int heaviest() {
            int found = NOTHING;
            long most = 0;
            for (int i = 0; i < CULPRITS; i++) {
                if (weights[i] > most) {
                    most = weights[i];
                    found = i;
                }
            }
            return found;
        }

        int punishedFrom(int tenths, int children) {
            // With nobody who can have been it each WHO is 0 by 1.
            long below = Math.max(1, total);
            int found = 0;
            for (int c = 0; c < children && c < CULPRITS; c++) {
                if (weights[c] * 10 >= tenths * below) {
                    found |= 1 << c;
                }
            }
            return found;
        }

        long shareBeside(int set, int part) {
            long beside = total;
            for (int i = 0; i < CULPRITS; i++) {
                if ((set >> i & 1) == 1) {
                    beside -= weights[i];
                }
            }
            return inLeastTerms(beside, total, part);
        }

        /** 0 by 1, if there is nothing below the line. */
        static long inLeastTerms(long above, long below, int part) {
            if (below == 0) {
                return part;
            }
            long one = above;
            long other = below;
            // Of two longs Euclid's steps are below 100.
            for (int step = 0; step < 100 && one != 0; step++) {
                long rest = other % one;
                other = one;
                one = rest;
            }
            if (other == 0) {
                return part;
            }
            return (part == 0 ? above : below) / other;
        }
    }

    /** What they agree on, how long that lasts, what it costs them to own up or not. */
    private static final class Pact {
        private static final int HALF = 0;
        private static final int ALL = 2;
        private static final int THANKS = 3;

        static int agreed(House house, int seconds, int what) {
            int left = seconds;
            int fixed = 0;
            for (int round = -1; round < house.minutes; round++) {
                boolean isDeedRound = round < 0;
                if (!isDeedRound && round == house.deedMinute) {
                    continue;
                }
                int cost = isDeedRound ? 5 : 2;
                for (int c = 0; c < house.children; c++) {
                    if (left < cost) {
                        return what == 0 ? fixed : 10 * c + (isDeedRound ? house.deedMinute : round);
                    }
                    left -= cost;
                    fixed++;
                }
            }
            return what == 0 ? fixed : NOTHING;
        }

        static long unbroken(House house, int weeks, int part) {
            long above = 1;
            long below = 1;
            for (int c = 0; c < house.children; c++) {
                for (int w = 0; w < weeks; w++) {
                    above *= 10 - house.slipsOf(c);
                    below *= 10;
                }
            }
            return Odds.inLeastTerms(above, below, part);
        }

        static int weeksToHalf(House house) {
            int left = 10000;
            for (int week = 1; week <= 99; week++) {
                for (int c = 0; c < house.children; c++) {
                    left = left * (10 - house.slipsOf(c)) / 10;
                }
                if (left < 5000) {
                    return week;
                }
            }
            return NOTHING;
        }

        static int owningUp(int law, int v) {
            if (law == THANKS) {
                return 0;
            }
            return law == HALF ? v / 2 : v;
        }

        static int denying(int law, int v, int namers, int children) {
            if (namers > 0 || law == ALL) {
                return v;
            }
            return law == HALF ? sharedBy(children, v) : 0;
        }

        static boolean ownsUp(int law, int v, int namers, int children) {
            return owningUp(law, v) <= denying(law, v, namers, children);
        }

        /** Only under HALF can others pay for a doer who is still: under ALL to own up never costs more. */
        static int othersPay(int law, int v, int namers, int children) {
            if (law != HALF || ownsUp(law, v, namers, children)) {
                return 0;
            }
            return sharedBy(children, v) * (children - 1);
        }

        private static int sharedBy(int children, int v) {
            return children > 0 ? v / children : 0;
        }

        static int skillBehind(int years, int skillAtFirst, boolean owns) {
            int skill = skillAtFirst;
            for (int year = 0; year < years; year++) {
                skill = owns ? Math.max(0, skill - 1) : Math.min(MOST_SKILL, skill + 1);
            }
            return skill;
        }
    }

    /** The letters of a HOUSE, read onto a draft, so that with a FAULT nothing of it has come. */
    private static final class Letters {
        private final int[] signs;
        private int many;
        private final House draft;

        Letters() {
            signs = new int[MOST_LETTERS];
            many = 0;
            draft = new House();
        }

        boolean isFull() {
            return many >= MOST_LETTERS;
        }

        int howMany() {
            return many;
        }

        int add(int letter) {
            if (many >= 0 && many < MOST_LETTERS) {
                signs[many] = letter;
                many++;
            }
            return many;
        }

        void clear() {
            many = 0;
        }

        House read() {
            return draft;
        }

        int readOnto(House house, Ways paths) {
            int wrong = firstWrongLetter(house.minutes);
            if (wrong >= 0) {
                return -1000 - wrong;
            }
            draft.copyFrom(house);
            draft.sayings = 0;
            int begin = 0;
            int statements = 0;
            for (int at = 0; at < many; at++) {
                if (signs[at] == ';') {
                    if (!comes(begin, paths)) {
                        return -2000 - begin;
                    }
                    begin = at + 1;
                    statements++;
                }
            }
            return statements;
        }

        private int firstWrongLetter(int minutesAtFirst) {
            int minutes = minutesAtFirst;
            int begin = 0;
            for (int at = 0; at < many; at++) {
                int first = letterAt(begin);
                int length = lengthOf(first, minutes);
                if (!mayStand(letterAt(at), first, at - begin, length)) {
                    return at;
                }
                if (at - begin == length - 1) {
                    minutes = minutesBehind(begin, minutes);
                    begin = at + 1;
                }
            }
            return many > 0 && begin == many ? -1 : many;
        }

        /** How many letters a STATEMENT has with its ";"; 0: none begins so. */
        private static int lengthOf(int first, int minutes) {
            switch (first) {
                case 'r':
                case 'd':
                case 'b':
                    return 4;
                case 'c':
                    return 5;
                case 'f':
                    return 6;
                case 't':
                    return 3 + minutes;
                default:
                    return 0;
            }
        }

        private static boolean mayStand(int letter, int first, int place, int length) {
            if (place == 0) {
                return length > 0;
            }
            if (place == length - 1) {
                return letter == ';';
            }
            if (first == 'f' && place == 4) {
                return letter == '+' || letter == '-';
            }
            return letter >= '0' && letter <= '9';
        }

        private int minutesBehind(int begin, int minutes) {
            boolean builds = letterAt(begin) == 'r' && House.canBuild(digitAt(begin + 1), digitAt(begin + 2));
            return builds ? digitAt(begin + 2) : minutes;
        }

        private int letterAt(int at) {
            return at >= 0 && at < many ? signs[at] : 0;
        }

        private int digitAt(int at) {
            return letterAt(at) - '0';
        }

        private boolean comes(int begin, Ways paths) {
            int one = digitAt(begin + 1);
            int two = digitAt(begin + 2);
            switch (letterAt(begin)) {
                case 'r':
                    return builds(one, two);
                case 'd':
                    return turnsDoor(one, two, paths);
                case 'c':
                    return draft.addChild(one, two, digitAt(begin + 3));
                case 't':
                    return goes(one, begin + 2);
                case 'b':
                    return breaks(one, two);
                case 'f':
                    return knows(begin, paths);
                default:
                    return false;
            }
        }

        private boolean builds(int rooms, int minutes) {
            if (!House.canBuild(rooms, minutes)) {
                return false;
            }
            draft.build(rooms, minutes);
            return true;
        }

        private boolean turnsDoor(int one, int other, Ways paths) {
            if (!draft.hasRoom(one) || !draft.hasRoom(other) || one == other) {
                return false;
            }
            draft.turnDoor(one, other);
            boolean some = true;
            for (int c = 0; c < draft.children && some; c++) {
                some = paths.someFor(draft, c);
            }
            return some;
        }

        private boolean goes(int child, int begin) {
            if (!draft.hasChild(child)) {
                return false;
            }
            for (int m = 0; m < draft.minutes; m++) {
                int room = digitAt(begin + m);
                int before = m == 0 ? room : digitAt(begin + m - 1);
                if (!draft.isStep(before, room)) {
                    return false;
                }
                draft.putPlace(child, m, room);
            }
            return true;
        }

        private boolean breaks(int room, int minute) {
            if (!draft.hasRoom(room) || !draft.hasMinute(minute)) {
                return false;
            }
            draft.putDeed(room, minute);
            return true;
        }

        private boolean knows(int begin, Ways paths) {
            int child = digitAt(begin + 1);
            int minute = digitAt(begin + 2);
            int room = digitAt(begin + 3);
            int is = bit(letterAt(begin + 4) == '+');
            return draft.hasChild(child) && draft.hasMinute(minute) && draft.hasRoom(room)
                && draft.addFact(child, minute, room, is) && paths.someFor(draft, child);
        }
    }
}
