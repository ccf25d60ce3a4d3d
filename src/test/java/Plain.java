import java.math.BigInteger;
import java.util.ArrayList;
import java.util.Arrays;
import java.util.Collections;
import java.util.List;
import java.util.TreeMap;
import java.util.TreeSet;
import java.util.regex.Matcher;
import java.util.regex.Pattern;

/** The document once more, with the whole Java library and no thought of speed: what the class is held against. */
final class Plain {
    private static final Pattern TEXT =
        Pattern.compile("(?:n[0-9];|k[0-9]{3};|t[0-9]{0,8};|g[0-9][=+];|l[0-9]{2};|b[0-9]{2,9};)+");

    private static final class State {
        List<int[]> kindAndFigure = new ArrayList<>();
        List<Integer> places = new ArrayList<>();
        TreeSet<Integer> truly = new TreeSet<>();
        int g = 4;
        boolean atLeast = false;
        int lampKind = 0;
        int needs = 2;
        List<int[]> book = new ArrayList<>();

        State() {
            renew(8);
        }

        void renew(int n) {
            kindAndFigure.clear();
            places.clear();
            truly.clear();
            book.clear();
            for (int b = 0; b < n; b++) {
                kindAndFigure.add(new int[] {0, 0});
                places.add(b);
                if (b % 2 == 0) {
                    truly.add(b);
                }
            }
            g = g > n ? n : g;
        }

        State copy() {
            State s = new State();
            s.kindAndFigure = new ArrayList<>();
            for (int[] kf : kindAndFigure) {
                s.kindAndFigure.add(kf.clone());
            }
            s.places = new ArrayList<>(places);
            s.truly = new TreeSet<>(truly);
            s.g = g;
            s.atLeast = atLeast;
            s.lampKind = lampKind;
            s.needs = needs;
            s.book = new ArrayList<>(book);
            return s;
        }

        int n() {
            return kindAndFigure.size();
        }
    }

    private State s = new State();
    private State image = null;
    private String letters = "";
    private final List<Integer> row = new ArrayList<>();
    private final TreeMap<Integer, Integer> refusals = new TreeMap<>();

    private int no(int number) {
        refusals.merge(number, 1, Integer::sum);
        return number;
    }

    private long longNo(int number) {
        no(number);
        return 4000000000000000000L - number;
    }

    private static TreeSet<Integer> members(int bits) {
        TreeSet<Integer> set = new TreeSet<>();
        for (int b = 0; b < 32; b++) {
            if ((bits >>> b & 1) == 1) {
                set.add(b);
            }
        }
        return set;
    }

    private static int bits(Iterable<Integer> set) {
        int bits = 0;
        for (int b : set) {
            bits |= 1 << b;
        }
        return bits;
    }

    private boolean exist(int bits) {
        for (int b : members(bits)) {
            if (b >= s.n()) {
                return false;
            }
        }
        return true;
    }

    int feed(int letter) {
        if (letter < 0) return no(-4);
        if (letter > 255) return no(-6);
        if (letters.length() == 96) return no(-6);
        letters += (char) letter;
        return letters.length();
    }

    int drawer() {
        String text = letters;
        letters = "";
        for (int i = 1; i <= text.length(); i++) {
            Matcher m = TEXT.matcher(text.substring(0, i));
            if (!m.matches() && !m.hitEnd()) return -1000 - (i - 1);
        }
        if (!TEXT.matcher(text).matches()) return -1000 - text.length();
        State before = s;
        s = s.copy();
        int place = 0;
        int statements = 0;
        for (String statement : text.split(";")) {
            if (!come(statement)) {
                s = before;
                return -2000 - place;
            }
            statements++;
            place += statement.length() + 1;
        }
        return statements;
    }

    private boolean come(String st) {
        int[] d = st.chars().skip(1).map(c -> c - '0').toArray();
        if (st.startsWith("n")) {
            if (d[0] < 2 || d[0] > 8) return false;
            s.renew(d[0]);
        } else if (st.startsWith("k")) {
            if (d[0] >= s.n() || d[1] > 5) return false;
            s.kindAndFigure.set(d[0], new int[] {d[1], d[2]});
        } else if (st.startsWith("t")) {
            TreeSet<Integer> good = new TreeSet<>();
            for (int b : d) {
                if (b >= s.n()) return false;
                good.add(b);
            }
            s.truly = good;
        } else if (st.startsWith("g")) {
            if (d[0] > s.n()) return false;
            s.g = d[0];
            s.atLeast = st.endsWith("+");
        } else if (st.startsWith("l")) {
            if (d[0] > 5 || d[1] < 2 || d[1] > 4) return false;
            s.lampKind = d[0];
            s.needs = d[1];
            s.book.clear();
        } else {
            TreeSet<Integer> set = new TreeSet<>();
            for (int i = 1; i < d.length; i++) {
                if (!set.add(d[i])) return false;
                if (d[i] >= s.n()) return false;
            }
            if (!isTry(bits(set)) || s.book.size() == 10) return false;
            s.book.add(new int[] {bits(set), d[0]});
        }
        return true;
    }

    private int tenths(int b) {
        int f = s.kindAndFigure.get(b)[1];
        return new int[] {5, 3, 8, 1, 8 + (f % 2 == 1 ? 1 : 0), 3 + f / 3}[s.kindAndFigure.get(b)[0]];
    }

    int battery(int b, int what) {
        if (b < 0 || b >= s.n()) return no(-1);
        if (what < 0 || what > 4) return no(-2);
        List<Integer> all = List.of(s.kindAndFigure.get(b)[0], s.kindAndFigure.get(b)[1], tenths(b),
            s.truly.contains(b) ? 1 : 0, s.places.indexOf(b));
        return all.get(what);
    }

    int kind(int b, int kind, int figure) {
        if (b < 0 || b >= s.n()) return no(-1);
        if (kind < 0 || kind > 5) return no(-2);
        if (figure < 0) return no(-4);
        if (figure > 9) return no(-6);
        int[] old = s.kindAndFigure.set(b, new int[] {kind, figure});
        return old[0] * 10 + old[1];
    }

    int truly(int set) {
        if (!exist(set)) return no(-1);
        int old = bits(s.truly);
        s.truly = members(set);
        return old;
    }

    int good(int g, int atLeast) {
        if (atLeast < 0 || atLeast > 1) return no(-2);
        if (g < 0) return no(-4);
        if (g > s.n()) return no(-6);
        int old = 2 * s.g + (s.atLeast ? 1 : 0);
        s.g = g;
        s.atLeast = atLeast == 1;
        return old;
    }

    int lamp(int kind, int needs) {
        if (kind < 0 || kind > 5) return no(-2);
        if (needs < 2) return no(-4);
        if (needs > 4) return no(-6);
        int old = 10 * s.lampKind + s.needs;
        s.lampKind = kind;
        s.needs = needs;
        s.book.clear();
        return old;
    }

    private boolean isTry(int set) {
        if (!exist(set)) return false;
        int size = members(set).size();
        return s.lampKind == 5 ? size > 0 : size == s.needs;
    }

    private int tells(int set, TreeSet<Integer> good) {
        int glow = 0;
        for (int b : members(set)) {
            if (good.contains(b)) glow++;
        }
        int flat = members(set).size() - glow;
        if (s.lampKind == 1) return glow;
        if (s.lampKind == 2) return flat > 1 ? 0 : 1;
        if (s.lampKind == 3) return glow % 2;
        if (s.lampKind == 4) return glow > 2 ? 2 : glow;
        return flat == 0 ? 1 : 0;
    }

    int would(int set) {
        return isTry(set) ? tells(set, s.truly) : no(-1);
    }

    int tries(int set) {
        if (!isTry(set)) return no(-1);
        if (s.book.size() >= 10) return no(-6);
        s.book.add(new int[] {set, tells(set, s.truly)});
        return tells(set, s.truly);
    }

    int book(int i) {
        if (i < 0 || i >= s.book.size()) return no(-1);
        return s.book.get(i)[0] * 10 + s.book.get(i)[1];
    }

    int strike() {
        if (s.book.isEmpty()) return no(-3);
        s.book.remove(s.book.size() - 1);
        return s.book.size();
    }

    private boolean agrees(TreeSet<Integer> good) {
        for (int[] t : s.book) {
            if (tells(t[0], good) != t[1]) return false;
        }
        return true;
    }

    private List<TreeSet<Integer>> worlds() {
        List<TreeSet<Integer>> all = new ArrayList<>();
        for (int w = 0; w < 1 << s.n(); w++) {
            TreeSet<Integer> world = members(w);
            boolean many = s.atLeast ? world.size() >= s.g : world.size() == s.g;
            if (many && agrees(world)) all.add(world);
        }
        return all;
    }

    private long weight(TreeSet<Integer> world) {
        long weight = 1;
        for (int b = 0; b < s.n(); b++) {
            weight *= world.contains(b) ? tenths(b) : 10 - tenths(b);
        }
        return weight;
    }

    private long weightHolding(List<TreeSet<Integer>> worlds, int set) {
        long sum = 0;
        for (TreeSet<Integer> w : worlds) {
            if (w.containsAll(members(set))) sum += weight(w);
        }
        return sum;
    }

    private int surelyFlat() {
        int flat = (1 << s.n()) - 1;
        List<TreeSet<Integer>> worlds = worlds();
        for (TreeSet<Integer> w : worlds) {
            flat &= ~bits(w);
        }
        return worlds.isEmpty() ? 0 : flat;
    }

    int may(int what) {
        if (what < 0 || what > 2) return no(-2);
        List<TreeSet<Integer>> worlds = worlds();
        if (what == 0) return worlds.size();
        if (what == 2) return surelyFlat();
        int sure = (1 << s.n()) - 1;
        for (TreeSet<Integer> w : worlds) {
            sure &= bits(w);
        }
        return worlds.isEmpty() ? 0 : sure;
    }

    private static long fraction(long above, long below, int part) {
        if (below == 0) return part == 0 ? 0 : 1;
        long divisor = BigInteger.valueOf(above).gcd(BigInteger.valueOf(below)).longValue();
        return (part == 0 ? above : below) / divisor;
    }

    long likely(int b, int part) {
        if (b < 0 || b >= s.n()) return longNo(-1);
        if (part < 0 || part > 1) return longNo(-2);
        return fraction(weightHolding(worlds(), 1 << b), weightHolding(worlds(), 0), part);
    }

    long lit(int set, int part) {
        if (!isTry(set)) return longNo(-1);
        if (part < 0 || part > 1) return longNo(-2);
        return fraction(weightHolding(worlds(), set), weightHolding(worlds(), 0), part);
    }

    private int left(List<TreeSet<Integer>> worlds, int set) {
        TreeMap<Integer, Integer> by = new TreeMap<>();
        for (TreeSet<Integer> w : worlds) {
            by.merge(tells(set, w), 1, Integer::sum);
        }
        return by.isEmpty() ? 0 : Collections.max(by.values());
    }

    int leaves(int set) {
        return isTry(set) ? left(worlds(), set) : no(-1);
    }

    private List<Integer> needed() {
        List<Integer> sets = new ArrayList<>();
        for (int set = 0; set < 1 << s.n(); set++) {
            if (members(set).size() == s.needs) sets.add(set);
        }
        return sets;
    }

    private int lucky(List<TreeSet<Integer>> worlds) {
        int best = -9;
        for (int set : needed()) {
            if (best == -9 || weightHolding(worlds, set) > weightHolding(worlds, best)) best = set;
        }
        return worlds.isEmpty() ? -9 : best;
    }

    int best(int what) {
        if (what < 0 || what > 1) return no(-2);
        List<TreeSet<Integer>> worlds = worlds();
        if (what == 1) return lucky(worlds);
        if (needed().isEmpty()) return -9;
        int best = needed().get(0);
        for (int set : needed()) {
            if (left(worlds, set) < left(worlds, best)) best = set;
        }
        return best;
    }

    /** All choices of tries are looked at, none skipped: the row of the best, or null. */
    private List<Integer> fewest() {
        List<Integer> sets = needed();
        List<TreeSet<Integer>> worlds = worlds();
        long all = (1L << worlds.size()) - 1;
        long[] covers = new long[sets.size()];
        for (int t = 0; t < sets.size(); t++) {
            for (int w = 0; w < worlds.size(); w++) {
                if (worlds.get(w).containsAll(members(sets.get(t)))) covers[t] |= 1L << w;
            }
        }
        if (worlds.size() == 64) all = -1L;
        int best = -1;
        long[] reached = new long[1 << sets.size()];
        for (int choice = 0; choice < reached.length; choice++) {
            if (choice != 0) {
                int low = Integer.numberOfTrailingZeros(choice);
                reached[choice] = reached[choice & choice - 1] | covers[low];
            }
            if (reached[choice] == all && (best < 0 || ahead(choice, best))) best = choice;
        }
        if (best < 0) return null;
        List<Integer> row = new ArrayList<>();
        for (int t : members(best)) {
            row.add(sets.get(t));
        }
        return row;
    }

    private static boolean ahead(int a, int b) {
        List<Integer> rowA = new ArrayList<>(members(a));
        List<Integer> rowB = new ArrayList<>(members(b));
        if (rowA.size() != rowB.size()) return rowA.size() < rowB.size();
        for (int i = 0; i < rowA.size(); i++) {
            if (!rowA.get(i).equals(rowB.get(i))) return rowA.get(i) < rowB.get(i);
        }
        return false;
    }

    int worst(int i) {
        if (i < -1) return no(-4);
        if (s.n() > 6) return no(-3);
        List<Integer> row = fewest();
        if (row == null) return -9;
        if (i == -1) return row.size();
        return i < row.size() ? row.get(i) : -9;
    }

    int heaps(int n, int g) {
        if (n < 2 || g < 2) return no(-4);
        if (n > 999 || g > n) return no(-6);
        int[] heaps = new int[g - 1];
        for (int i = 0; i < n; i++) {
            heaps[i % (g - 1)]++;
        }
        return Arrays.stream(heaps).map(h -> h * (h - 1) / 2).sum();
    }

    private List<long[]> ordered() {
        List<long[]> order = new ArrayList<>();
        List<TreeSet<Integer>> worlds = worlds();
        while (order.size() < 20) {
            int set = lucky(worlds);
            if (set == -9 || weightHolding(worlds, set) == 0) break;
            order.add(new long[] {set, weightHolding(worlds, set)});
            worlds.removeIf(w -> w.containsAll(members(set)));
        }
        return order;
    }

    int order(int i) {
        if (i < 0) return no(-4);
        List<long[]> order = ordered();
        return i < order.size() ? (int) order.get(i)[0] : -9;
    }

    long mean(int part) {
        if (part < 0 || part > 1) return longNo(-2);
        long above = 0;
        long below = 0;
        List<Integer> sets = new ArrayList<>();
        for (long[] o : ordered()) {
            sets.add((int) o[0]);
        }
        for (TreeSet<Integer> w : worlds()) {
            for (int i = 0; i < sets.size(); i++) {
                if (w.containsAll(members(sets.get(i)))) {
                    above += (i + 1) * weight(w);
                    below += weight(w);
                    break;
                }
            }
        }
        return fraction(above, below, part);
    }

    /** The pairs of places that a trier has in mind. */
    private List<int[]> pairs(int kind) {
        int n = s.n();
        List<int[]> all = new ArrayList<>();
        for (int a = 0; a < n; a++) {
            for (int b = a + 1; b < n; b++) {
                all.add(new int[] {a, b});
            }
        }
        if (kind == 3) {
            for (int[] p : all) {
                p[0] = n - 1 - p[0];
                p[1] = n - 1 - p[1];
            }
        }
        if (kind == 2 || kind == 5) {
            all.sort((p, q) -> Integer.compare(p[1] - p[0], q[1] - q[0]));
        }
        if (kind == 1 || kind == 4) {
            int heaps = Math.max(1, s.g - 1);
            int[] sizes = new int[heaps];
            for (int i = 0; i < n; i++) {
                sizes[i % heaps]++;
            }
            List<Integer> heapOf = new ArrayList<>();
            for (int h = 0; h < heaps; h++) {
                heapOf.addAll(Collections.nCopies(sizes[h], h));
            }
            all.sort((p, q) -> Boolean.compare(!heapOf.get(p[0]).equals(heapOf.get(p[1])),
                !heapOf.get(q[0]).equals(heapOf.get(q[1]))));
        }
        return all;
    }

    /** The tries that a trier makes, as pairs of batteries; the last one is lit, or none is. */
    private List<int[]> evening(int kind, List<Integer> places, TreeSet<Integer> good) {
        List<int[]> made = new ArrayList<>();
        int[] dark = new int[8];
        TreeSet<Integer> flat = members(kind == 5 ? surelyFlat() : 0);
        for (int[] p : pairs(kind)) {
            int a = places.get(p[0]);
            int b = places.get(p[1]);
            int canBe = s.n() - s.g;
            if (kind == 4 && (dark[a] > canBe || dark[b] > canBe)) continue;
            if (flat.contains(a) || flat.contains(b)) continue;
            made.add(new int[] {a, b});
            if (good.contains(a) && good.contains(b)) return made;
            dark[a]++;
            dark[b]++;
        }
        return made;
    }

    private static int howMany(List<int[]> made, TreeSet<Integer> good) {
        if (made.isEmpty()) return -9;
        int[] last = made.get(made.size() - 1);
        return good.contains(last[0]) && good.contains(last[1]) ? made.size() : -9;
    }

    int trier(int kind) {
        if (kind < 0 || kind > 5) return no(-2);
        return howMany(evening(kind, s.places, s.truly), s.truly);
    }

    private static int[] chain(int n) {
        if (n == 1) return new int[] {0, 0};
        int[] one = chain(n / 2);
        int[] other = chain(n - n / 2);
        return new int[] {1 + Math.max(one[0], other[0]), n + one[1] + other[1]};
    }

    int chain(int n, int what) {
        if (n < 1) return no(-4);
        if (n > 999) return no(-6);
        if (what < 0 || what > 1) return no(-2);
        return chain(n)[what];
    }

    int tester(int r, int t, int s) {
        if (r < 6 || t < 1 || s < 1) return no(-4);
        if (r > 9 || t > 9 || s > 9) return no(-6);
        for (int k = 0; k < 10; k++) {
            BigInteger good = BigInteger.valueOf(t).multiply(BigInteger.valueOf(r).pow(k));
            BigInteger flat = BigInteger.valueOf(10 - t).multiply(BigInteger.valueOf(10 - r).pow(k));
            // good / (good + flat) >= s / 10
            if (good.multiply(BigInteger.TEN).compareTo(good.add(flat).multiply(BigInteger.valueOf(s))) >= 0) return k;
        }
        return -9;
    }

    long forgets(int m, int what, int part) {
        if (m < 1) return longNo(-4);
        if (m > 99) return longNo(-6);
        if (what < 0 || what > 1 || part < 0 || part > 1) return longNo(-2);
        if (what == 0) return part == 0 ? m : 1;
        return fraction(m * (m + 1) / 2, m, part);
    }

    private List<Integer> laid(int kind, int rule) {
        List<int[]> made = evening(kind, s.places, s.truly);
        TreeSet<Integer> good = new TreeSet<>();
        TreeSet<Integer> flat = new TreeSet<>();
        TreeSet<Integer> last = new TreeSet<>();
        if (!made.isEmpty()) {
            last.add(made.get(made.size() - 1)[0]);
            last.add(made.get(made.size() - 1)[1]);
        }
        if (howMany(made, s.truly) != -9) {
            good.addAll(last);
            for (int[] p : made.subList(0, made.size() - 1)) {
                if (good.contains(p[0])) flat.add(p[1]);
                if (good.contains(p[1])) flat.add(p[0]);
            }
        }
        List<Integer> next = new ArrayList<>(s.places);
        if (rule == 1 || rule == 3) next.sort((a, b) -> Boolean.compare(good.contains(b), good.contains(a)));
        if (rule == 2 || rule == 3) next.sort((a, b) -> Boolean.compare(flat.contains(a), flat.contains(b)));
        if (rule == 4) next.sort((a, b) -> Boolean.compare(last.contains(b), last.contains(a)));
        if (rule == 5) Collections.reverse(next);
        return next;
    }

    int back(int kind, int rule) {
        if (kind < 0 || kind > 5 || rule < 0 || rule > 5) return no(-2);
        return howMany(evening(kind, laid(kind, rule), s.truly), s.truly);
    }

    int bestRule(int kind) {
        if (kind < 0 || kind > 5) return no(-2);
        List<Integer> counts = new ArrayList<>();
        for (int rule = 0; rule < 6; rule++) {
            int made = howMany(evening(kind, laid(kind, rule), s.truly), s.truly);
            counts.add(made == -9 ? 99 : made);
        }
        return counts.indexOf(Collections.min(counts));
    }

    int put(int kind, int rule) {
        if (kind < 0 || kind > 5 || rule < 0 || rule > 5) return no(-2);
        int made = howMany(evening(kind, s.places, s.truly), s.truly);
        s.places = laid(kind, rule);
        return made;
    }

    int suspect() {
        if (agrees(s.truly)) return 0;
        int found = 0;
        for (int b = 0; b < s.n(); b++) {
            TreeSet<Integer> other = new TreeSet<>(s.truly);
            if (!other.remove(b)) other.add(b);
            if (agrees(other)) found += 1 << b;
        }
        return found;
    }

    int row(int v) {
        if (v < 0) return no(-4);
        if (v > 255 || row.size() == 10) return no(-6);
        row.add(v);
        return row.size();
    }

    int judge() {
        List<Integer> judged = new ArrayList<>(row);
        row.clear();
        for (int i = 0; i < judged.size(); i++) {
            boolean isSet = i % 2 == 0;
            if (isSet && !isTry(judged.get(i))) return i;
            if (!isSet && judged.get(i) != tells(judged.get(i - 1), s.truly)) return i;
        }
        return judged.size() % 2 == 1 ? judged.size() - 1 : -9;
    }

    int seeds(int kind, int n, int z, int what) {
        if (kind < 0 || kind > 5) return no(-2);
        if (n < 1) return no(-4);
        if (n > 20) return no(-6);
        if (what < 0 || what > 1) return no(-2);
        int sum = 0;
        int evenings = 0;
        for (int e = 0; e < n; e++) {
            TreeSet<Integer> good = new TreeSet<>();
            for (int b = 0; b < s.n(); b++) {
                z = z * 1103515245 + 12345;
                if ((z & 0x7fffffff) / 65536 % 10 < tenths(b)) good.add(b);
            }
            int made = howMany(evening(kind, s.places, good), good);
            if (made != -9) {
                sum += made;
                evenings++;
            }
        }
        return what == 0 ? sum : evenings;
    }

    int image() {
        image = s.copy();
        return s.book.size();
    }

    int restore() {
        if (image == null) return no(-3);
        s = image.copy();
        return s.book.size();
    }

    int count(int what) {
        if (what >= 11 && what <= 16) return refusals.getOrDefault(10 - what, 0);
        if (what < 0 || what > 9) return -9;
        int[] all = {s.n(), s.book.size(), s.truly.size(), s.g, s.atLeast ? 1 : 0, s.lampKind, s.needs,
            letters.length(), row.size(), worlds().size()};
        return all[what];
    }
}
