/**
 * Two good ones out of eight: batteries of kinds in a drawer, some of which are good, and a lamp
 * that needs two, three or four of them. What each method promises stands in the project's document.
 */
public final class TwoGoodOfEight {
    private static final int MOST_BATTERIES = 8;
    private static final int FEWEST_BATTERIES = 2;
    private static final int MOST_WORLDS = 256;
    private static final int MOST_TRIES = 10;
    private static final int MOST_LETTERS = 96;
    private static final int MOST_NUMBERS = 10;
    private static final int MOST_IN_ORDER = 20;
    private static final int MOST_PAIRS = 28;
    private static final int MOST_COVERING = 20;
    private static final int WORST_BATTERIES = 6;
    private static final int HIGHEST_NUMBER = 255;
    private static final int FEWEST_NEEDS = 2;
    private static final int MOST_NEEDS = 4;
    private static final int MOST_FIGURE = 9;
    private static final int KINDS = 6;
    private static final int RULES = 6;
    private static final int MOST_IN_HEAPS = 999;
    private static final int MOST_IN_CHAIN = 999;
    private static final int MOST_FORGOTTEN = 99;
    private static final int MOST_EVENINGS = 20;
    private static final int NEVER_LIT_COUNTS = 99;
    private static final int HALVINGS = 10;
    private static final int ALL_BUT_SIGN = 0x7fffffff;
    private static final int NO_BOUND = 0x7fffffff;

    private static final int NOBODY = -1;
    private static final int OTHER = -2;
    private static final int STATE = -3;
    private static final int BELOW = -4;
    private static final int ROOM = -6;
    private static final int NONE = -9;
    private static final long LONG_REFUSAL = 4000000000000000000L;
    private static final int SPELLING_FAULT = -1000;
    private static final int MEANING_FAULT = -2000;

    private static final int OLD = 1;
    private static final int FRESH = 2;
    private static final int RUSTY = 3;
    private static final int PACKED = 4;
    private static final int ROLLED = 5;

    private static final int GLOW = 1;
    private static final int THRIFTY = 2;
    private static final int ODD = 3;
    private static final int DIM = 4;
    private static final int CHAIN = 5;

    private static final int HEAP = 1;
    private static final int SLIDE = 2;
    private static final int LAST = 3;
    private static final int WRITE = 4;
    private static final int KNOWER = 5;

    private static final int GOOD_FIRST = 1;
    private static final int FLAT_LAST = 2;
    private static final int GOOD_FIRST_FLAT_LAST = 3;
    private static final int LAST_TRY_FIRST = 4;
    private static final int TURNED_ROUND = 5;

    private final Drawer now = new Drawer();
    private final Drawer picture = new Drawer();
    private final Drawer draft = new Drawer();
    private boolean pictureTaken = false;
    private final Letters letters = new Letters();
    private final int[] numbers = new int[MOST_NUMBERS];
    private int numberCount = 0;
    private final int[] refusals = new int[7];
    private final Worlds worlds = new Worlds();
    private final Cover cover = new Cover();
    private final Evening evening = new Evening();

    public TwoGoodOfEight() {
    }

    // ---- the drawer, its letters and its batteries

    public int feed(int letter) {
        if (letter < 0) {
            return refuse(BELOW);
        }
        if (letter > HIGHEST_NUMBER || letters.length >= MOST_LETTERS) {
            return refuse(ROOM);
        }
        return letters.add(letter);
    }

    public int drawer() {
        draft.become(now);
        int answer = letters.readInto(draft);
        letters.length = 0;
        if (answer > 0) {
            now.become(draft);
        }
        return answer;
    }

    public int battery(int battery, int what) {
        if (!now.has(battery)) {
            return refuse(NOBODY);
        }
        switch (what) {
            case 0:
                return at(now.kinds, battery);
            case 1:
                return at(now.figures, battery);
            case 2:
                return now.tenths(battery);
            case 3:
                return now.trulyGood >> battery & 1;
            case 4:
                return now.placeOf(battery);
            default:
                return refuse(OTHER);
        }
    }

    public int kind(int battery, int kind, int figure) {
        if (!now.has(battery)) {
            return refuse(NOBODY);
        }
        if (noKind(kind)) {
            return refuse(OTHER);
        }
        if (figure < 0) {
            return refuse(BELOW);
        }
        if (figure > MOST_FIGURE) {
            return refuse(ROOM);
        }
        int before = 10 * at(now.kinds, battery) + at(now.figures, battery);
        now.mark(battery, kind, figure);
        return before;
    }

    public int truly(int set) {
        if (!now.hasAll(set)) {
            return refuse(NOBODY);
        }
        int before = now.trulyGood;
        now.trulyGood = set;
        return before;
    }

    public int good(int g, int atLeast) {
        if (atLeast != 0 && atLeast != 1) {
            return refuse(OTHER);
        }
        if (g < 0) {
            return refuse(BELOW);
        }
        if (g > now.batteries) {
            return refuse(ROOM);
        }
        int before = 2 * now.g + now.atLeast;
        now.g = g;
        now.atLeast = atLeast;
        return before;
    }

    // ---- the lamp, its tries and the book of them

    public int lamp(int kind, int needs) {
        if (noKind(kind)) {
            return refuse(OTHER);
        }
        if (needs < FEWEST_NEEDS) {
            return refuse(BELOW);
        }
        if (needs > MOST_NEEDS) {
            return refuse(ROOM);
        }
        int before = 10 * now.lampKind + now.needs;
        now.takeLamp(kind, needs);
        return before;
    }

    public int would(int set) {
        if (!now.isTry(set)) {
            return refuse(NOBODY);
        }
        return now.tells(set, now.trulyGood);
    }

    public int tries(int set) {
        if (!now.isTry(set)) {
            return refuse(NOBODY);
        }
        if (now.tryCount >= MOST_TRIES) {
            return refuse(ROOM);
        }
        int told = now.tells(set, now.trulyGood);
        now.write(set, told);
        return told;
    }

    public int book(int i) {
        if (i < 0 || i >= now.tryCount) {
            return refuse(NOBODY);
        }
        return 10 * at(now.trySets, i) + at(now.toldOf, i);
    }

    public int strike() {
        if (now.tryCount <= 0) {
            return refuse(STATE);
        }
        now.tryCount--;
        return now.tryCount;
    }

    // ---- what may yet be so

    public int may(int what) {
        if (what < 0 || what > 2) {
            return refuse(OTHER);
        }
        worlds.look(now);
        if (what == 0) {
            return worlds.mayCount;
        }
        return what == 1 ? worlds.surelyGood() : worlds.surelyFlat();
    }

    public long likely(int battery, int part) {
        if (!now.has(battery)) {
            return refuseLong(NOBODY);
        }
        if (noPart(part)) {
            return refuseLong(OTHER);
        }
        worlds.look(now);
        return partOf(worlds.holdingAll(1 << battery), worlds.total(), part);
    }

    public long lit(int set, int part) {
        if (!now.isTry(set)) {
            return refuseLong(NOBODY);
        }
        if (noPart(part)) {
            return refuseLong(OTHER);
        }
        worlds.look(now);
        return partOf(worlds.holdingAll(set), worlds.total(), part);
    }

    public int leaves(int set) {
        if (!now.isTry(set)) {
            return refuse(NOBODY);
        }
        worlds.look(now);
        return worlds.leftAtWorst(now, set);
    }

    public int best(int what) {
        if (what != 0 && what != 1) {
            return refuse(OTHER);
        }
        worlds.look(now);
        if (what == 0) {
            return worlds.split(now);
        }
        return worlds.mayCount == 0 ? NONE : worlds.lucky(now.needs);
    }

    public int worst(int i) {
        if (i < -1) {
            return refuse(BELOW);
        }
        if (now.batteries > WORST_BATTERIES) {
            return refuse(STATE);
        }
        worlds.look(now);
        cover.findFewest(worlds, now.needs);
        return i == -1 ? cover.size() : cover.member(i);
    }

    public int heaps(int n, int g) {
        if (n < 2 || g < 2) {
            return refuse(BELOW);
        }
        if (n > MOST_IN_HEAPS || g > n) {
            return refuse(ROOM);
        }
        return pairsWithinHeaps(n, g - 1);
    }

    public int order(int i) {
        if (i < 0) {
            return refuse(BELOW);
        }
        worlds.look(now);
        worlds.putInOrder(now.needs);
        return i < worlds.orderCount ? at(worlds.orderSets, i) : NONE;
    }

    public long mean(int part) {
        if (noPart(part)) {
            return refuseLong(OTHER);
        }
        worlds.look(now);
        worlds.putInOrder(now.needs);
        return partOf(worlds.orderMade(), worlds.orderLit(), part);
    }

    // ---- triers, chains, testers and forgotten tries

    public int trier(int kind) {
        if (noKind(kind)) {
            return refuse(OTHER);
        }
        prepareEvening(kind);
        evening.spend(now.trulyGood);
        return evening.answer();
    }

    public int chain(int n, int what) {
        if (n < 1) {
            return refuse(BELOW);
        }
        if (n > MOST_IN_CHAIN) {
            return refuse(ROOM);
        }
        if (what != 0 && what != 1) {
            return refuse(OTHER);
        }
        return what == 0 ? halvingsAtWorst(n) : halvingsTogether(n, HALVINGS);
    }

    public int tester(int r, int t, int s) {
        if (r < 6 || t < 1 || s < 1) {
            return refuse(BELOW);
        }
        if (r > 9 || t > 9 || s > 9) {
            return refuse(ROOM);
        }
        return timesToSayGood(r, t, s);
    }

    public long forgets(int m, int what, int part) {
        if (m < 1) {
            return refuseLong(BELOW);
        }
        if (m > MOST_FORGOTTEN) {
            return refuseLong(ROOM);
        }
        if (what != 0 && what != 1 || noPart(part)) {
            return refuseLong(OTHER);
        }
        return what == 0 ? partOf(m, 1, part) : partOf(m + 1, 2, part);
    }

    // ---- putting back, told evenings and evenings by seeds

    public int back(int kind, int rule) {
        if (noKind(kind) || noRule(rule)) {
            return refuse(OTHER);
        }
        prepareEvening(kind);
        return nextEvening(rule);
    }

    public int bestRule(int kind) {
        if (noKind(kind)) {
            return refuse(OTHER);
        }
        prepareEvening(kind);
        int best = 0;
        int fewest = NO_BOUND;
        for (int rule = 0; rule < RULES; rule++) {
            int made = nextEvening(rule);
            int counted = made == NONE ? NEVER_LIT_COUNTS : made;
            if (counted < fewest) {
                fewest = counted;
                best = rule;
            }
        }
        return best;
    }

    public int put(int kind, int rule) {
        if (noKind(kind) || noRule(rule)) {
            return refuse(OTHER);
        }
        prepareEvening(kind);
        evening.spend(now.trulyGood);
        int answer = evening.answer();
        evening.layBack(rule);
        now.lieAs(evening.lying);
        return answer;
    }

    public int suspect() {
        if (now.bookAgrees(now.trulyGood)) {
            return 0;
        }
        int suspects = 0;
        for (int battery = 0; battery < now.batteries; battery++) {
            if (now.bookAgrees(now.trulyGood ^ 1 << battery)) {
                suspects |= 1 << battery;
            }
        }
        return suspects;
    }

    public int row(int v) {
        if (v < 0) {
            return refuse(BELOW);
        }
        if (v > HIGHEST_NUMBER || numberCount >= MOST_NUMBERS) {
            return refuse(ROOM);
        }
        store(numbers, numberCount, v);
        numberCount++;
        return numberCount;
    }

    public int judge() {
        int length = numberCount;
        numberCount = 0;
        for (int place = 0; place < length; place += 2) {
            int set = at(numbers, place);
            if (!now.isTry(set) || place + 1 >= length) {
                return place;
            }
            if (at(numbers, place + 1) != now.tells(set, now.trulyGood)) {
                return place + 1;
            }
        }
        return NONE;
    }

    public int seeds(int kind, int n, int z, int what) {
        if (noKind(kind)) {
            return refuse(OTHER);
        }
        if (n < 1) {
            return refuse(BELOW);
        }
        if (n > MOST_EVENINGS) {
            return refuse(ROOM);
        }
        if (what != 0 && what != 1) {
            return refuse(OTHER);
        }
        return seededEvenings(kind, n, z, what);
    }

    // ---- the image, and how many there are

    public int image() {
        picture.become(now);
        pictureTaken = true;
        return now.tryCount;
    }

    public int restore() {
        if (!pictureTaken) {
            return refuse(STATE);
        }
        now.become(picture);
        return now.tryCount;
    }

    public int count(int what) {
        switch (what) {
            case 0:
                return now.batteries;
            case 1:
                return now.tryCount;
            case 2:
                return Integer.bitCount(now.trulyGood);
            case 3:
                return now.g;
            case 4:
                return now.atLeast;
            case 5:
                return now.lampKind;
            case 6:
                return now.needs;
            case 7:
                return letters.length;
            case 8:
                return numberCount;
            case 9:
                worlds.look(now);
                return worlds.mayCount;
            default:
                return what >= 11 && what <= 16 ? at(refusals, what - 10) : NONE;
        }
    }

    // ---- refusals and what is refused

    private int refuse(int number) {
        store(refusals, -number, at(refusals, -number) + 1);
        return number;
    }

    private long refuseLong(int number) {
        return LONG_REFUSAL - refuse(number);
    }

    private static boolean noKind(int kind) {
        return kind < 0 || kind >= KINDS;
    }

    private static boolean noRule(int rule) {
        return rule < 0 || rule >= RULES;
    }

    private static boolean noPart(int part) {
        return part != 0 && part != 1;
    }

    // ---- evenings

    private void prepareEvening(int kind) {
        int shunned = 0;
        if (kind == KNOWER) {
            worlds.look(now);
            shunned = worlds.surelyFlat();
        }
        evening.prepare(now, kind, shunned);
    }

    private int nextEvening(int rule) {
        evening.lieAs(now.lying);
        evening.spend(now.trulyGood);
        evening.layBack(rule);
        evening.spend(now.trulyGood);
        return evening.answer();
    }

    private int seededEvenings(int kind, int evenings, int seed, int what) {
        prepareEvening(kind);
        int z = seed;
        int made = 0;
        int litEvenings = 0;
        for (int i = 0; i < evenings; i++) {
            int goodOnes = 0;
            for (int battery = 0; battery < now.batteries; battery++) {
                z = z * 1103515245 + 12345;
                if ((z & ALL_BUT_SIGN) / 65536 % 10 < now.tenths(battery)) {
                    goodOnes |= 1 << battery;
                }
            }
            evening.spend(goodOnes);
            if (evening.wasLit) {
                made += evening.made;
                litEvenings++;
            }
        }
        return what == 0 ? made : litEvenings;
    }

    // ---- laws of numbers

    private static int pairsWithinHeaps(int things, int heapCount) {
        if (heapCount < 1) {
            return 0;
        }
        int small = things / heapCount;
        int larger = things % heapCount;
        return larger * pairsOf(small + 1) + (heapCount - larger) * pairsOf(small);
    }

    private static int pairsOf(int things) {
        return things * (things - 1) / 2;
    }

    private static int halvingsAtWorst(int n) {
        int left = n;
        int made = 0;
        for (int step = 0; step < HALVINGS && left > 1; step++) {
            left -= left / 2;
            made++;
        }
        return made;
    }

    /** Each place of the bad one costs the try of this half, then what its own half costs. */
    private static int halvingsTogether(int n, int depth) {
        if (n <= 1 || depth <= 0) {
            return 0;
        }
        int half = n / 2;
        return n + halvingsTogether(half, depth - 1) + halvingsTogether(n - half, depth - 1);
    }

    private static int timesToSayGood(int right, int tenths, int wanted) {
        long ifGood = tenths;
        long ifFlat = 10 - tenths;
        for (int times = 0; times <= 9; times++) {
            if (10 * ifGood >= wanted * (ifGood + ifFlat)) {
                return times;
            }
            ifGood *= right;
            ifFlat *= 10 - right;
        }
        return NONE;
    }

    private static long partOf(long above, long below, int part) {
        long divisor = commonDivisor(above, below);
        if (below == 0 || divisor == 0) {
            return part;
        }
        return part == 0 ? above / divisor : below / divisor;
    }

    private static long commonDivisor(long a, long b) {
        long larger = a;
        long smaller = b;
        for (int step = 0; step < 200 && smaller != 0; step++) {
            long rest = larger % smaller;
            larger = smaller;
            smaller = rest;
        }
        return larger;
    }

    // ---- rows: an index is looked at before it is used

    private static int at(int[] list, int i) {
        return i >= 0 && i < list.length ? list[i] : 0;
    }

    private static long at(long[] list, int i) {
        return i >= 0 && i < list.length ? list[i] : 0;
    }

    private static void store(int[] list, int i, int value) {
        if (i >= 0 && i < list.length) {
            list[i] = value;
        }
    }

    private static void store(long[] list, int i, long value) {
        if (i >= 0 && i < list.length) {
            list[i] = value;
        }
    }

    private static void copy(int[] from, int[] to) {
        for (int i = 0; i < from.length; i++) {
            store(to, i, at(from, i));
        }
    }

    /** The batteries, how many are good as it is told, the lamp and the book: all that an image holds. */
    private static final class Drawer {
        int batteries = MOST_BATTERIES;
        final int[] kinds = new int[MOST_BATTERIES];
        final int[] figures = new int[MOST_BATTERIES];
        /** The battery on each place. */
        final int[] lying = new int[MOST_BATTERIES];
        int trulyGood = 0;
        int g = 4;
        int atLeast = 0;
        int lampKind = 0;
        int needs = FEWEST_NEEDS;
        int tryCount = 0;
        final int[] trySets = new int[MOST_TRIES];
        final int[] toldOf = new int[MOST_TRIES];

        Drawer() {
            renew(MOST_BATTERIES);
        }

        void renew(int howMany) {
            batteries = howMany;
            for (int i = 0; i < MOST_BATTERIES; i++) {
                mark(i, 0, 0);
                store(lying, i, i);
            }
            trulyGood = 0x55 & (1 << howMany) - 1;
            tryCount = 0;
            g = Math.min(g, howMany);
        }

        void become(Drawer other) {
            batteries = other.batteries;
            copy(other.kinds, kinds);
            copy(other.figures, figures);
            lieAs(other.lying);
            trulyGood = other.trulyGood;
            g = other.g;
            atLeast = other.atLeast;
            takeLamp(other.lampKind, other.needs);
            for (int i = 0; i < other.tryCount && i < MOST_TRIES; i++) {
                write(at(other.trySets, i), at(other.toldOf, i));
            }
        }

        void mark(int battery, int kindNow, int figureNow) {
            store(kinds, battery, kindNow);
            store(figures, battery, figureNow);
        }

        void lieAs(int[] order) {
            copy(order, lying);
        }

        void takeLamp(int kindNow, int needsNow) {
            lampKind = kindNow;
            needs = needsNow;
            tryCount = 0;
        }

        void write(int set, int told) {
            store(trySets, tryCount, set);
            store(toldOf, tryCount, told);
            tryCount++;
        }

        boolean has(int battery) {
            return battery >= 0 && battery < batteries;
        }

        boolean hasAll(int set) {
            return set >> batteries == 0;
        }

        int placeOf(int battery) {
            for (int place = 0; place < batteries; place++) {
                if (at(lying, place) == battery) {
                    return place;
                }
            }
            return NONE;
        }

        int tenths(int battery) {
            int plain = 5;
            int old = plain - 2;
            int fresh = plain + 3;
            int figure = at(figures, battery);
            switch (at(kinds, battery)) {
                case OLD:
                    return old;
                case FRESH:
                    return fresh;
                case RUSTY:
                    return old - 2;
                case PACKED:
                    return fresh + figure % 2;
                case ROLLED:
                    return old + figure / 3;
                default:
                    return plain;
            }
        }

        boolean isTry(int set) {
            if (!hasAll(set)) {
                return false;
            }
            return lampKind == CHAIN ? set != 0 : Integer.bitCount(set) == needs;
        }

        int tells(int set, int goodOnes) {
            int size = Integer.bitCount(set);
            int glow = Integer.bitCount(set & goodOnes);
            switch (lampKind) {
                case GLOW:
                    return glow;
                case THRIFTY:
                    return glow >= size - 1 ? 1 : 0;
                case ODD:
                    return glow % 2;
                case DIM:
                    return Math.min(glow, 2);
                default:
                    return glow == size ? 1 : 0;
            }
        }

        boolean bookAgrees(int goodOnes) {
            for (int i = 0; i < tryCount; i++) {
                if (tells(at(trySets, i), goodOnes) != at(toldOf, i)) {
                    return false;
                }
            }
            return true;
        }

        boolean mayBe(int goodOnes) {
            int size = Integer.bitCount(goodOnes);
            boolean asMany = atLeast == 1 ? size >= g : size == g;
            return asMany && bookAgrees(goodOnes);
        }

        long weightOf(int goodOnes) {
            long weight = 1;
            for (int battery = 0; battery < batteries; battery++) {
                int tenths = tenths(battery);
                weight *= (goodOnes >> battery & 1) == 1 ? tenths : 10 - tenths;
            }
            return weight;
        }
    }

    /** The letters that came, read as statements. */
    private static final class Letters {
        final int[] text = new int[MOST_LETTERS];
        int length = 0;

        int add(int letter) {
            store(text, length, letter);
            length++;
            return length;
        }

        int letter(int place) {
            return place < length ? at(text, place) : -1;
        }

        int digit(int place) {
            int sign = letter(place);
            return sign >= '0' && sign <= '9' ? sign - '0' : -1;
        }

        /** How many digits stand from a place on, counted no further than most. */
        int digitsFrom(int place, int most) {
            int digits = 0;
            for (int i = 0; i < most && digit(place + i) >= 0; i++) {
                digits++;
            }
            return digits;
        }

        int readInto(Drawer drawer) {
            int misspelt = firstMisspelt();
            if (misspelt >= 0) {
                return SPELLING_FAULT - misspelt;
            }
            int statements = 0;
            int place = 0;
            for (int step = 0; step < MOST_LETTERS && place < length; step++) {
                if (!comes(place, drawer)) {
                    return MEANING_FAULT - place;
                }
                statements++;
                place = statementEnd(place);
            }
            return statements;
        }

        /** The place of the first letter with which no drawer can go on, or -1. */
        int firstMisspelt() {
            int place = 0;
            for (int step = 0; step <= MOST_LETTERS; step++) {
                int end = statementEnd(place);
                if (end < 0) {
                    return -1 - end;
                }
                if (end >= length) {
                    return -1;
                }
                place = end;
            }
            return -1;
        }

        /** The place behind a statement, or -1 less the place of the letter that cannot go on. */
        int statementEnd(int start) {
            int head = letter(start);
            int most = mostDigits(head);
            if (most < 0) {
                return -1 - start;
            }
            int digits = digitsFrom(start + 1, most);
            int place = start + 1 + digits;
            if (digits < leastDigits(head)) {
                return -1 - place;
            }
            if (head == 'g') {
                if (letter(place) != '=' && letter(place) != '+') {
                    return -1 - place;
                }
                place++;
            }
            return letter(place) == ';' ? place + 1 : -1 - place;
        }

        static int mostDigits(int head) {
            switch (head) {
                case 'n':
                case 'g':
                    return 1;
                case 'l':
                    return 2;
                case 'k':
                    return 3;
                case 't':
                    return 8;
                case 'b':
                    return 9;
                default:
                    return -1;
            }
        }

        static int leastDigits(int head) {
            switch (head) {
                case 't':
                    return 0;
                case 'b':
                    return 2;
                default:
                    return mostDigits(head);
            }
        }

        /** Lets the statement at a place come into a drawer, if it is as it must be. */
        boolean comes(int place, Drawer drawer) {
            int first = digit(place + 1);
            int second = digit(place + 2);
            switch (letter(place)) {
                case 'n':
                    return batteriesCome(first, drawer);
                case 'k':
                    return kindComes(first, second, digit(place + 3), drawer);
                case 't':
                    return trulyComes(place, drawer);
                case 'g':
                    return goodComes(first, letter(place + 2) == '+' ? 1 : 0, drawer);
                case 'l':
                    return lampComes(first, second, drawer);
                default:
                    return tryComes(place, drawer);
            }
        }

        static boolean batteriesCome(int howMany, Drawer drawer) {
            if (howMany < FEWEST_BATTERIES || howMany > MOST_BATTERIES) {
                return false;
            }
            drawer.renew(howMany);
            return true;
        }

        static boolean kindComes(int battery, int kindNow, int figure, Drawer drawer) {
            if (!drawer.has(battery) || noKind(kindNow)) {
                return false;
            }
            drawer.mark(battery, kindNow, figure);
            return true;
        }

        boolean trulyComes(int place, Drawer drawer) {
            int set = setFrom(place + 1);
            if (!drawer.hasAll(set)) {
                return false;
            }
            drawer.trulyGood = set;
            return true;
        }

        static boolean goodComes(int g, int atLeast, Drawer drawer) {
            if (g > drawer.batteries) {
                return false;
            }
            drawer.g = g;
            drawer.atLeast = atLeast;
            return true;
        }

        static boolean lampComes(int kindNow, int needs, Drawer drawer) {
            if (noKind(kindNow) || needs < FEWEST_NEEDS || needs > MOST_NEEDS) {
                return false;
            }
            drawer.takeLamp(kindNow, needs);
            return true;
        }

        boolean tryComes(int place, Drawer drawer) {
            int set = setFrom(place + 2);
            boolean noneTwice = Integer.bitCount(set) == digitsFrom(place + 2, MOST_BATTERIES);
            if (!noneTwice || !drawer.isTry(set) || drawer.tryCount >= MOST_TRIES) {
                return false;
            }
            drawer.write(set, digit(place + 1));
            return true;
        }

        /** The batteries whose digits stand from a place on, as bits: 8 and 9 too, which are none. */
        int setFrom(int place) {
            int set = 0;
            for (int i = 0; i < MOST_BATTERIES && digit(place + i) >= 0; i++) {
                set |= 1 << digit(place + i);
            }
            return set;
        }
    }

    /** The worlds that may be, and what follows from their weights. */
    private static final class Worlds {
        /** Of each world; none that may be weighs nothing, as tenths are 1 to 9. */
        final long[] weights = new long[MOST_WORLDS];
        /** Of each set, what all worlds weigh together that hold all of it. */
        final long[] holding = new long[MOST_WORLDS];
        final int[] mayWorlds = new int[MOST_WORLDS];
        /** Of each answer, how many worlds that may be it leaves. */
        final int[] leftBy = new int[MOST_NEEDS + 1];
        final int[] orderSets = new int[MOST_IN_ORDER];
        final long[] orderWeights = new long[MOST_IN_ORDER];
        int orderCount = 0;
        int batteries = 0;
        int worldCount = 0;
        int mayCount = 0;

        void look(Drawer drawer) {
            batteries = drawer.batteries;
            worldCount = 1 << batteries;
            mayCount = 0;
            for (int world = 0; world < worldCount; world++) {
                boolean may = drawer.mayBe(world);
                store(weights, world, may ? drawer.weightOf(world) : 0);
                if (may) {
                    store(mayWorlds, mayCount, world);
                    mayCount++;
                }
            }
            weighHolding();
        }

        private void weighHolding() {
            for (int world = 0; world < worldCount; world++) {
                store(holding, world, at(weights, world));
            }
            for (int battery = 0; battery < batteries; battery++) {
                int bit = 1 << battery;
                for (int set = 0; set < worldCount; set++) {
                    if ((set & bit) == 0) {
                        store(holding, set, at(holding, set) + at(holding, set | bit));
                    }
                }
            }
        }

        long total() {
            return at(holding, 0);
        }

        long holdingAll(int set) {
            return at(holding, set);
        }

        int surelyGood() {
            int sure = 0;
            for (int battery = 0; battery < batteries && mayCount > 0; battery++) {
                if (holdingAll(1 << battery) == total()) {
                    sure |= 1 << battery;
                }
            }
            return sure;
        }

        int surelyFlat() {
            int sure = 0;
            for (int battery = 0; battery < batteries && mayCount > 0; battery++) {
                if (holdingAll(1 << battery) == 0) {
                    sure |= 1 << battery;
                }
            }
            return sure;
        }

        int leftAtWorst(Drawer drawer, int set) {
            for (int told = 0; told < leftBy.length; told++) {
                store(leftBy, told, 0);
            }
            int most = 0;
            for (int i = 0; i < mayCount; i++) {
                int told = drawer.tells(set, at(mayWorlds, i));
                int left = at(leftBy, told) + 1;
                store(leftBy, told, left);
                most = Math.max(most, left);
            }
            return most;
        }

        int split(Drawer drawer) {
            int best = NONE;
            int least = NO_BOUND;
            for (int set = 0; set < worldCount; set++) {
                if (Integer.bitCount(set) == drawer.needs) {
                    int left = leftAtWorst(drawer, set);
                    if (left < least) {
                        least = left;
                        best = set;
                    }
                }
            }
            return best;
        }

        int lucky(int needs) {
            int best = NONE;
            long most = -1;
            for (int set = 0; set < worldCount; set++) {
                if (Integer.bitCount(set) == needs && holdingAll(set) > most) {
                    most = holdingAll(set);
                    best = set;
                }
            }
            return best;
        }

        /** Makes the order; the worlds in which one of it is lit weigh nothing any more then. */
        void putInOrder(int needs) {
            orderCount = 0;
            for (int i = 0; i < MOST_IN_ORDER; i++) {
                int set = lucky(needs);
                if (set < 0 || holdingAll(set) == 0) {
                    return;
                }
                store(orderSets, orderCount, set);
                store(orderWeights, orderCount, holdingAll(set));
                orderCount++;
                dropHolding(set);
            }
        }

        private void dropHolding(int set) {
            for (int world = 0; world < worldCount; world++) {
                if ((world & set) == set) {
                    store(weights, world, 0);
                }
            }
            weighHolding();
        }

        long orderMade() {
            long made = 0;
            for (int i = 0; i < orderCount; i++) {
                made += (i + 1) * at(orderWeights, i);
            }
            return made;
        }

        long orderLit() {
            long weight = 0;
            for (int i = 0; i < orderCount; i++) {
                weight += at(orderWeights, i);
            }
            return weight;
        }
    }

    /** The fewest tries such that in each world of six batteries that may be, one of them is lit. */
    private static final class Cover {
        final int[] sets = new int[MOST_COVERING];
        /** Of each try the worlds in which it is lit, a bit each. */
        final long[] litIn = new long[MOST_COVERING];
        /** The worlds in which this try or one behind it is lit. */
        final long[] litFrom = new long[MOST_COVERING + 1];
        int setCount = 0;
        /** The tries chosen, a bit each; below 0 there are none such. */
        int chosen = 0;

        void findFewest(Worlds worlds, int needs) {
            long open = 0;
            for (int i = 0; i < worlds.mayCount; i++) {
                open |= 1L << at(worlds.mayWorlds, i);
            }
            listTries(worlds.worldCount, needs, open);
            int forced = forcedTries(open);
            long left = open & ~litInAny(forced);
            chosen = -1;
            for (int most = 0; most <= setCount && chosen < 0; most++) {
                int found = firstCover(this, 0, most, left);
                chosen = found < 0 ? -1 : found | forced;
            }
        }

        private void listTries(int worldCount, int needs, long open) {
            setCount = 0;
            for (int set = 0; set < worldCount; set++) {
                if (Integer.bitCount(set) == needs && setCount < MOST_COVERING) {
                    store(sets, setCount, set);
                    store(litIn, setCount, open & worldsHolding(set, worldCount));
                    setCount++;
                }
            }
            store(litFrom, setCount, 0);
            for (int i = setCount - 1; i >= 0; i--) {
                store(litFrom, i, at(litFrom, i + 1) | at(litIn, i));
            }
        }

        private static long worldsHolding(int set, int worldCount) {
            long holding = 0;
            for (int world = 0; world < worldCount; world++) {
                if ((world & set) == set) {
                    holding |= 1L << world;
                }
            }
            return holding;
        }

        /** The tries that alone are lit in some world: every cover has them. */
        private int forcedTries(long open) {
            int forced = 0;
            for (int i = 0; i < setCount; i++) {
                long elsewhere = 0;
                for (int j = 0; j < setCount; j++) {
                    elsewhere |= j == i ? 0 : at(litIn, j);
                }
                if ((at(litIn, i) & ~elsewhere) != 0) {
                    forced |= 1 << i;
                }
            }
            return forced;
        }

        private long litInAny(int chosenTries) {
            long lit = 0;
            for (int i = 0; i < setCount; i++) {
                lit |= (chosenTries >> i & 1) == 1 ? at(litIn, i) : 0;
            }
            return lit;
        }

        /**
         * The first choice of at most so many tries from one on that are lit in all open worlds, or -1.
         * The first member that can be kept is kept, so what is found first is the first row.
         */
        private static int firstCover(Cover cover, int from, int most, long open) {
            if (open == 0) {
                return 0;
            }
            if (most <= 0 || Long.bitCount(open) > most * cover.widest(from, open)) {
                return -1;
            }
            for (int i = from; i < cover.setCount; i++) {
                if ((open & ~at(cover.litFrom, i)) != 0) {
                    return -1;
                }
                long lit = at(cover.litIn, i);
                if ((lit & open) != 0) {
                    int behind = firstCover(cover, i + 1, most - 1, open & ~lit);
                    if (behind >= 0) {
                        return behind | 1 << i;
                    }
                }
            }
            return -1;
        }

        private int widest(int from, long open) {
            int widest = 0;
            for (int i = from; i < setCount; i++) {
                widest = Math.max(widest, Long.bitCount(at(litIn, i) & open));
            }
            return widest;
        }

        int size() {
            return chosen < 0 ? NONE : Integer.bitCount(chosen);
        }

        int member(int wanted) {
            int seen = 0;
            for (int i = 0; i < setCount && chosen >= 0; i++) {
                if ((chosen >> i & 1) == 1) {
                    if (seen == wanted) {
                        return at(sets, i);
                    }
                    seen++;
                }
            }
            return NONE;
        }
    }

    /** An evening of a trier: which pairs of places he would try, and what came of it. */
    private static final class Evening {
        final int[] firsts = new int[MOST_PAIRS];
        final int[] seconds = new int[MOST_PAIRS];
        int pairCount = 0;
        final int[] heapOf = new int[MOST_BATTERIES];
        final int[] lying = new int[MOST_BATTERIES];
        final int[] laidNext = new int[MOST_BATTERIES];
        /** Of each battery, those with which it was in a dark pair (bits). */
        final int[] darkWith = new int[MOST_BATTERIES];
        int trierKind = 0;
        int batteries = 0;
        int mostFlat = 0;
        int shunned = 0;
        int made = 0;
        int lastTry = 0;
        boolean wasLit = false;

        void prepare(Drawer drawer, int kindNow, int surelyFlat) {
            trierKind = kindNow;
            batteries = drawer.batteries;
            mostFlat = drawer.batteries - drawer.g;
            shunned = surelyFlat;
            lieAs(drawer.lying);
            pairCount = 0;
            switch (kindNow) {
                case HEAP:
                case WRITE:
                    pairHeaps(Math.max(1, drawer.g - 1));
                    break;
                case SLIDE:
                case KNOWER:
                    pairNeighbours();
                    break;
                default:
                    pairAll(kindNow == LAST);
                    break;
            }
        }

        void lieAs(int[] order) {
            copy(order, lying);
        }

        private void addPair(int first, int second) {
            store(firsts, pairCount, first);
            store(seconds, pairCount, second);
            pairCount++;
        }

        private void pairAll(boolean fromLast) {
            int last = batteries - 1;
            for (int a = 0; a < batteries; a++) {
                for (int b = a + 1; b < batteries; b++) {
                    addPair(fromLast ? last - a : a, fromLast ? last - b : b);
                }
            }
        }

        private void pairNeighbours() {
            for (int apart = 1; apart < batteries; apart++) {
                for (int a = 0; a + apart < batteries; a++) {
                    addPair(a, a + apart);
                }
            }
        }

        private void pairHeaps(int heapCount) {
            fillHeaps(heapCount);
            pairWhere(true);
            pairWhere(false);
        }

        private void pairWhere(boolean withinHeaps) {
            for (int a = 0; a < batteries; a++) {
                for (int b = a + 1; b < batteries; b++) {
                    if ((at(heapOf, a) == at(heapOf, b)) == withinHeaps) {
                        addPair(a, b);
                    }
                }
            }
        }

        private void fillHeaps(int heapCount) {
            if (heapCount < 1) {
                return;
            }
            int place = 0;
            for (int heap = 0; heap < heapCount; heap++) {
                int size = batteries / heapCount + (heap < batteries % heapCount ? 1 : 0);
                for (int i = 0; i < size; i++) {
                    store(heapOf, place, heap);
                    place++;
                }
            }
        }

        void spend(int goodOnes) {
            made = 0;
            lastTry = 0;
            wasLit = false;
            for (int battery = 0; battery < MOST_BATTERIES; battery++) {
                store(darkWith, battery, 0);
            }
            for (int i = 0; i < pairCount && !wasLit; i++) {
                int a = at(lying, at(firsts, i));
                int b = at(lying, at(seconds, i));
                if (!leftOut(a) && !leftOut(b)) {
                    tryPair(a, b, goodOnes);
                }
            }
        }

        private boolean leftOut(int battery) {
            if (trierKind == WRITE) {
                return Integer.bitCount(at(darkWith, battery)) > mostFlat;
            }
            return (shunned >> battery & 1) == 1;
        }

        private void tryPair(int a, int b, int goodOnes) {
            made++;
            lastTry = 1 << a | 1 << b;
            wasLit = (goodOnes & lastTry) == lastTry;
            if (!wasLit) {
                store(darkWith, a, at(darkWith, a) | 1 << b);
                store(darkWith, b, at(darkWith, b) | 1 << a);
            }
        }

        int answer() {
            return wasLit ? made : NONE;
        }

        private int knownGood() {
            return wasLit ? lastTry : 0;
        }

        private int knownFlat() {
            int known = 0;
            for (int battery = 0; battery < batteries; battery++) {
                if ((knownGood() >> battery & 1) == 1) {
                    known |= at(darkWith, battery);
                }
            }
            return known;
        }

        void layBack(int rule) {
            int first = comingFirst(rule);
            int last = comingLast(rule);
            int laid = 0;
            if (rule == TURNED_ROUND) {
                for (int place = batteries - 1; place >= 0; place--) {
                    laid = layNext(at(lying, place), laid);
                }
            } else {
                laid = layThose(first, laid);
                laid = layThose(~(first | last), laid);
                laid = layThose(last, laid);
            }
            for (int place = 0; place < laid; place++) {
                store(lying, place, at(laidNext, place));
            }
        }

        private int comingFirst(int rule) {
            if (rule == GOOD_FIRST || rule == GOOD_FIRST_FLAT_LAST) {
                return knownGood();
            }
            return rule == LAST_TRY_FIRST ? lastTry : 0;
        }

        private int comingLast(int rule) {
            return rule == FLAT_LAST || rule == GOOD_FIRST_FLAT_LAST ? knownFlat() : 0;
        }

        /** Lays those of a set in the order in which they lay, and tells how many are laid. */
        private int layThose(int set, int laid) {
            int next = laid;
            for (int place = 0; place < batteries; place++) {
                int battery = at(lying, place);
                if ((set >> battery & 1) == 1) {
                    next = layNext(battery, next);
                }
            }
            return next;
        }

        private int layNext(int battery, int laid) {
            store(laidNext, laid, battery);
            return laid + 1;
        }
    }
}
