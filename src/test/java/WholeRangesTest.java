/** All arguments there are, and two beyond each end: laws counted out one by one, and every drawer of up to six by all who try. */
public final class WholeRangesTest {
    private static final Check CHECK = new Check();
    private static final long LONG_REFUSAL = 4000000000000000000L;

    public static void main(String[] args) {
        heaps();
        chain();
        tester();
        forgets();
        triers();
        CHECK.close();
    }

    // ---- Promise 19: BATTERIES are dealt to the heaps one by one

    private static void heaps() {
        CHECK.about("Promise 19");
        TwoGoodOfEight x = new TwoGoodOfEight();
        for (int n = 0; n <= 1001; n++) {
            for (int g = 0; g <= n + 2; g++) {
                CHECK.due("heaps(" + n + ", " + g + ")", x.heaps(n, g), heaps(n, g));
            }
        }
    }

    private static int heaps(int n, int g) {
        if (n < 2 || g < 2) {
            return -4;
        }
        if (n > 999 || g > n) {
            return -6;
        }
        int[] heap = new int[g - 1];
        int pairs = 0;
        for (int battery = 0; battery < n; battery++) {
            pairs += heap[battery % heap.length];
            heap[battery % heap.length]++;
        }
        return pairs;
    }

    // ---- Promise 23: the bad one is looked for on each place

    private static void chain() {
        CHECK.about("Promise 23");
        TwoGoodOfEight x = new TwoGoodOfEight();
        for (int n = -1; n <= 1001; n++) {
            int most = 0;
            int together = 0;
            for (int bad = 0; bad < n; bad++) {
                int tries = triesFor(bad, n);
                most = Math.max(most, tries);
                together += tries;
            }
            int refused = n < 1 ? -4 : n > 999 ? -6 : 0;
            CHECK.due("chain(" + n + ", 0)", x.chain(n, 0), refused != 0 ? refused : most);
            CHECK.due("chain(" + n + ", 1)", x.chain(n, 1), refused != 0 ? refused : together);
            CHECK.due("chain(" + n + ", -1)", x.chain(n, -1), refused != 0 ? refused : -2);
            CHECK.due("chain(" + n + ", 2)", x.chain(n, 2), refused != 0 ? refused : -2);
        }
    }

    private static int triesFor(int bad, int n) {
        int from = 0;
        int size = n;
        int tries = 0;
        while (size > 1) {
            int half = size / 2;
            tries++;
            if (bad < from + half) {
                size = half;
            } else {
                from += half;
                size -= half;
            }
        }
        return tries;
    }

    // ---- Promise 24: how many good ones, how many flat ones it calls good so often

    private static void tester() {
        CHECK.about("Promise 24");
        TwoGoodOfEight x = new TwoGoodOfEight();
        for (int r = 4; r <= 11; r++) {
            for (int t = -1; t <= 11; t++) {
                for (int s = -1; s <= 11; s++) {
                    CHECK.due("tester(" + r + ", " + t + ", " + s + ")", x.tester(r, t, s), tester(r, t, s));
                }
            }
        }
    }

    private static int tester(int r, int t, int s) {
        if (r < 6 || t < 1 || s < 1) {
            return -4;
        }
        if (r > 9 || t > 9 || s > 9) {
            return -6;
        }
        for (int times = 0; times <= 9; times++) {
            long good = t * power(r, times);
            long flat = (10 - t) * power(10 - r, times);
            if (good * (10 - s) >= flat * s) {
                return times;
            }
        }
        return -9;
    }

    private static long power(int base, int times) {
        long power = 1;
        for (int i = 0; i < times; i++) {
            power *= base;
        }
        return power;
    }

    // ---- Promise 25: the mean over all places of the one that is LIT

    private static void forgets() {
        CHECK.about("Promise 25");
        TwoGoodOfEight x = new TwoGoodOfEight();
        for (int m = -1; m <= 101; m++) {
            for (int what = -2; what <= 3; what++) {
                for (int part = -2; part <= 3; part++) {
                    CHECK.due("forgets(" + m + ", " + what + ", " + part + ")",
                        x.forgets(m, what, part), forgets(m, what, part));
                }
            }
        }
    }

    private static long forgets(int m, int what, int part) {
        if (m < 1) {
            return LONG_REFUSAL + 4;
        }
        if (m > 99) {
            return LONG_REFUSAL + 6;
        }
        if (what < 0 || what > 1 || part < 0 || part > 1) {
            return LONG_REFUSAL + 2;
        }
        if (what == 0) {
            return part == 0 ? m : 1;
        }
        int together = 0;
        for (int lit = 1; lit <= m; lit++) {
            together += lit;
        }
        boolean whole = together % m == 0;
        if (part == 1) {
            return whole ? 1 : 2;
        }
        return whole ? together / m : 2 * together / m;
    }

    // ---- Promises 22, 26 to 28: whoever is TRULY good, however many are told, with PLACES as put back by each evening

    private static void triers() {
        for (int n = 2; n <= 6; n++) {
            for (int g = 0; g <= n; g++) {
                evenings(n, g);
            }
        }
    }

    private static void evenings(int n, int g) {
        TwoGoodOfEight x = new TwoGoodOfEight();
        Plain y = new Plain();
        for (char letter : ("n" + n + ";g" + g + "=;").toCharArray()) {
            x.feed(letter);
            y.feed(letter);
        }
        CHECK.due("drawer()", x.drawer(), y.drawer());
        for (int set = 0; set < 1 << n; set++) {
            CHECK.about("n" + n + ";g" + g + "=; truly " + set);
            CHECK.due("truly(" + set + ")", x.truly(set), y.truly(set));
            for (int kind = 0; kind <= 5; kind++) {
                askOf(kind, x, y);
            }
            int kind = set % 6;
            int rule = set / 6 % 6;
            CHECK.due("put(" + kind + ", " + rule + ")", x.put(kind, rule), y.put(kind, rule));
        }
    }

    private static void askOf(int kind, TwoGoodOfEight x, Plain y) {
        CHECK.due("trier(" + kind + ")", x.trier(kind), y.trier(kind));
        CHECK.due("bestRule(" + kind + ")", x.bestRule(kind), y.bestRule(kind));
        for (int rule = 0; rule <= 5; rule++) {
            CHECK.due("back(" + kind + ", " + rule + ")", x.back(kind, rule), y.back(kind, rule));
        }
    }
}
