import java.util.function.Supplier;
import java.util.function.ToLongFunction;

/**
 * Each refusal of each promise: its number, which fits first, that it is counted once and alone,
 * and that nothing else changes: neither what can be seen, nor letters, row and image.
 */
public final class RefusalsTest {
    private static final int LEAST = Probe.LEAST;
    private static final int GREATEST = Probe.GREATEST;
    private static final int NOBODY = -1;
    private static final int OTHER = -2;
    private static final int STATE = -3;
    private static final int BELOW = -4;
    private static final int ROOM = -6;
    private static final int[] NO_KINDS = {-1, 6, LEAST, GREATEST};
    private static final int[] NOT_ONE_OR_NONE = {-1, 2, LEAST, GREATEST};
    private static final Check CHECK = new Check();

    public static void main(String[] args) {
        theStartIsInUse();
        feed();
        battery();
        kind();
        truly();
        good();
        lamp();
        noTry();
        tries();
        book();
        strike();
        may();
        likely();
        lit();
        best();
        worst();
        heaps();
        order();
        mean();
        trier();
        chain();
        tester();
        forgets();
        backAndPut();
        row();
        seeds();
        restore();
        answersThatAreNoRefusals();
        eachNumberForItself();
        CHECK.close();
    }

    private static void refused(String sentence, int number, ToLongFunction<TwoGoodOfEight> call) {
        refused(sentence, number, Probe::inUse, call);
    }

    private static void refused(String sentence, int number, Supplier<TwoGoodOfEight> start,
            ToLongFunction<TwoGoodOfEight> call) {
        refusedAs(sentence, number, number, start, call);
    }

    private static void refusedLong(String sentence, int number, ToLongFunction<TwoGoodOfEight> call) {
        refusedLong(sentence, number, Probe::inUse, call);
    }

    private static void refusedLong(String sentence, int number, Supplier<TwoGoodOfEight> start,
            ToLongFunction<TwoGoodOfEight> call) {
        refusedAs(sentence, Probe.LONG_REFUSAL - number, number, start, call);
    }

    private static void refusedAs(String sentence, long answer, int number, Supplier<TwoGoodOfEight> start,
            ToLongFunction<TwoGoodOfEight> call) {
        CHECK.about(sentence);
        TwoGoodOfEight x = start.get();
        int[] before = Probe.refusals(x);
        CHECK.due("the call", call.applyAsLong(x), answer);
        int[] behind = Probe.refusals(x);
        for (int i = 0; i < behind.length; i++) {
            CHECK.due("count(" + (11 + i) + ")", behind[i], before[i] + (number == -1 - i ? 1 : 0));
        }
        CHECK.holds("nothing else changes", Probe.spent(x).equals(Probe.spent(start.get())));
    }

    private static TwoGoodOfEight two() {
        return Probe.drawerOf("n2;");
    }

    private static TwoGoodOfEight eight() {
        return Probe.drawerOf("n8;");
    }

    private static TwoGoodOfEight fullBook() {
        return Probe.drawerOf(Probe.FULL_BOOK);
    }

    private static TwoGoodOfEight fullLetters() {
        TwoGoodOfEight x = new TwoGoodOfEight();
        Probe.feed(x, "t;".repeat(46) + "k051");
        return x;
    }

    private static TwoGoodOfEight fullRow() {
        TwoGoodOfEight x = new TwoGoodOfEight();
        for (int i = 0; i < 5; i++) {
            x.row(5);
            x.row(1);
        }
        return x;
    }

    /** So that a change of anything would be seen. */
    private static void theStartIsInUse() {
        CHECK.about("the object that refuses");
        TwoGoodOfEight x = Probe.inUse();
        int[] counts = {7, 2, 4, 3, 1, 2, 3, 9, 4};
        for (int what = 0; what < counts.length; what++) {
            CHECK.due("count(" + what + ")", x.count(what), counts[what]);
        }
        CHECK.due("the row is as it would be told", x.judge(), -9);
        CHECK.due("letters", x.drawer(), 2);
        CHECK.due("the image", x.restore(), 2);
        CHECK.due("is another", x.count(0), 5);
    }

    private static void feed() {
        for (int letter : new int[] {-1, LEAST}) {
            refused("Promise 2: -4, letter " + letter, BELOW, x -> x.feed(letter));
            refused("Promise 2: -4 ahead of -6, letter " + letter, BELOW, RefusalsTest::fullLetters, x -> x.feed(letter));
        }
        for (int letter : new int[] {256, GREATEST}) {
            refused("Promise 2: -6 255, letter " + letter, ROOM, x -> x.feed(letter));
            refused("Promise 2: -6, twice, letter " + letter, ROOM, RefusalsTest::fullLetters, x -> x.feed(letter));
        }
        refused("Promise 2: -6 96", ROOM, RefusalsTest::fullLetters, x -> x.feed(';'));
        refused("Promise 2: -6 96, the least letter", ROOM, RefusalsTest::fullLetters, x -> x.feed(0));
        refused("Promise 2: -6 96, the greatest letter", ROOM, RefusalsTest::fullLetters, x -> x.feed(255));
    }

    private static void battery() {
        for (int none : new int[] {-1, 7, 8, LEAST, GREATEST}) {
            refused("Promise 4: -1, BATTERY " + none, NOBODY, x -> x.battery(none, 0));
            refused("Promise 4: -1 ahead of -2, BATTERY " + none, NOBODY, x -> x.battery(none, 5));
        }
        refused("Promise 4: -1, of two", NOBODY, RefusalsTest::two, x -> x.battery(2, 4));
        refused("Promise 4: -1, of eight", NOBODY, RefusalsTest::eight, x -> x.battery(8, 4));
        for (int what : new int[] {-1, 5, LEAST, GREATEST}) {
            refused("Promise 4: -2, what " + what, OTHER, x -> x.battery(6, what));
        }
    }

    private static void kind() {
        for (int none : new int[] {-1, 7, 8, LEAST, GREATEST}) {
            refused("Promise 5: -1, BATTERY " + none, NOBODY, x -> x.kind(none, 5, 9));
            refused("Promise 5: -1 ahead of -2, BATTERY " + none, NOBODY, x -> x.kind(none, 6, 9));
            refused("Promise 5: -1 ahead of -4, BATTERY " + none, NOBODY, x -> x.kind(none, 5, -1));
            refused("Promise 5: -1 ahead of -6, BATTERY " + none, NOBODY, x -> x.kind(none, 5, 10));
        }
        refused("Promise 5: -1, of two", NOBODY, RefusalsTest::two, x -> x.kind(2, 0, 1));
        refused("Promise 5: -1, of eight", NOBODY, RefusalsTest::eight, x -> x.kind(8, 0, 1));
        for (int kind : NO_KINDS) {
            refused("Promise 5: -2, KIND " + kind, OTHER, x -> x.kind(6, kind, 0));
            refused("Promise 5: -2 ahead of -4, KIND " + kind, OTHER, x -> x.kind(6, kind, -1));
            refused("Promise 5: -2 ahead of -6, KIND " + kind, OTHER, x -> x.kind(6, kind, 10));
        }
        refused("Promise 5: -4, FIGURE -1", BELOW, x -> x.kind(6, 0, -1));
        refused("Promise 5: -4, the least FIGURE", BELOW, x -> x.kind(6, 0, LEAST));
        refused("Promise 5: -6 9, FIGURE 10", ROOM, x -> x.kind(6, 0, 10));
        refused("Promise 5: -6 9, the greatest FIGURE", ROOM, x -> x.kind(6, 0, GREATEST));
    }

    private static void truly() {
        for (int none : new int[] {-1, 128, 256, LEAST, GREATEST, 1 << 30, LEAST + 1}) {
            refused("Promise 6: -1, set " + none, NOBODY, x -> x.truly(none));
        }
        refused("Promise 6: -1, of two", NOBODY, RefusalsTest::two, x -> x.truly(4));
        refused("Promise 6: -1, of two, some are there", NOBODY, RefusalsTest::two, x -> x.truly(7));
        refused("Promise 6: -1, of eight", NOBODY, RefusalsTest::eight, x -> x.truly(256));
        refused("Promise 6: -1, of eight, some are there", NOBODY, RefusalsTest::eight, x -> x.truly(511));
    }

    private static void good() {
        for (int atLeast : NOT_ONE_OR_NONE) {
            refused("Promise 7: -2, atLeast " + atLeast, OTHER, x -> x.good(0, atLeast));
            refused("Promise 7: -2 ahead of -4, atLeast " + atLeast, OTHER, x -> x.good(-1, atLeast));
            refused("Promise 7: -2 ahead of -6, atLeast " + atLeast, OTHER, x -> x.good(8, atLeast));
        }
        for (int atLeast = 0; atLeast <= 1; atLeast++) {
            int told = atLeast;
            refused("Promise 7: -4, g -1", BELOW, x -> x.good(-1, told));
            refused("Promise 7: -4, the least g", BELOW, x -> x.good(LEAST, told));
            refused("Promise 7: -6, more than seven", ROOM, x -> x.good(8, told));
            refused("Promise 7: -6, the greatest g", ROOM, x -> x.good(GREATEST, told));
            refused("Promise 7: -6, more than two", ROOM, RefusalsTest::two, x -> x.good(3, told));
            refused("Promise 7: -6, more than eight", ROOM, RefusalsTest::eight, x -> x.good(9, told));
        }
    }

    private static void lamp() {
        for (int kind : NO_KINDS) {
            refused("Promise 8: -2, KIND " + kind, OTHER, x -> x.lamp(kind, 2));
            refused("Promise 8: -2 ahead of -4, KIND " + kind, OTHER, x -> x.lamp(kind, 1));
            refused("Promise 8: -2 ahead of -6, KIND " + kind, OTHER, x -> x.lamp(kind, 5));
        }
        for (int needs : new int[] {1, 0, -1, LEAST}) {
            refused("Promise 8: -4 below 2, NEEDS " + needs, BELOW, x -> x.lamp(0, needs));
        }
        for (int needs : new int[] {5, GREATEST}) {
            refused("Promise 8: -6 4, NEEDS " + needs, ROOM, x -> x.lamp(0, needs));
        }
    }

    private static void noTry(String which, int set, Supplier<TwoGoodOfEight> start) {
        refused("Promise 9: -1 no TRY, " + which, NOBODY, start, x -> x.would(set));
        refused("Promise 10: -1 no TRY, " + which, NOBODY, start, x -> x.tries(set));
        refusedLong("Promise 15: -1 no TRY, " + which, NOBODY, start, x -> x.lit(set, 0));
        refusedLong("Promise 15: -1 ahead of -2, " + which, NOBODY, start, x -> x.lit(set, 2));
        refused("Promise 16: -1 no TRY, " + which, NOBODY, start, x -> x.leaves(set));
    }

    private static void noTry() {
        noTry("none of three", 0, Probe::inUse);
        noTry("one of three", 1, Probe::inUse);
        noTry("two of three", 0b11, Probe::inUse);
        noTry("four of three", 0b1111, Probe::inUse);
        noTry("three, one beyond seven", 0b10000011, Probe::inUse);
        noTry("three, the sign's bit", LEAST | 3, Probe::inUse);
        noTry("three, bit 30", 1 << 30 | 3, Probe::inUse);
        noTry("-1", -1, Probe::inUse);
        noTry("the least", LEAST, Probe::inUse);
        noTry("the greatest", GREATEST, Probe::inUse);
        noTry("one of two", 2, RefusalsTest::two);
        noTry("two, one beyond two", 0b101, RefusalsTest::two);
        noTry("two, one beyond eight", 0b100000001, RefusalsTest::eight);
        noTry("three of two needed", 0b111, RefusalsTest::eight);
        noTry("three needed, two there are", 0b11, () -> Probe.drawerOf("n2;l03;"));
        noTry("four needed, three there are", 0b111, () -> Probe.drawerOf("n3;l04;"));
        noTry("five of four needed", 0b11111, () -> Probe.drawerOf("l04;"));
        noTry("three of four needed", 0b111, () -> Probe.drawerOf("l04;"));
        noTry("a CHAIN of none", 0, () -> Probe.drawerOf("l52;"));
        noTry("a CHAIN, one beyond eight", 0b100000000, () -> Probe.drawerOf("l52;"));
        noTry("a CHAIN, one beyond two", 0b100, () -> Probe.drawerOf("n2;l52;"));
        noTry("a CHAIN, -1", -1, () -> Probe.drawerOf("l52;"));
        noTry("a CHAIN, the least", LEAST, () -> Probe.drawerOf("l52;"));
    }

    private static void tries() {
        refused("Promise 10: -6 10", ROOM, RefusalsTest::fullBook, x -> x.tries(1));
        refused("Promise 10: -6 10, all of a CHAIN", ROOM, RefusalsTest::fullBook, x -> x.tries(255));
        refused("Promise 10: -1 ahead of -6", NOBODY, RefusalsTest::fullBook, x -> x.tries(0));
        refused("Promise 10: -1 ahead of -6, beyond eight", NOBODY, RefusalsTest::fullBook, x -> x.tries(256));
    }

    private static void book() {
        for (int i : new int[] {-1, 2, LEAST, GREATEST}) {
            refused("Promise 11: -1, i " + i, NOBODY, x -> x.book(i));
        }
        refused("Promise 11: -1, an empty BOOK", NOBODY, TwoGoodOfEight::new, x -> x.book(0));
        refused("Promise 11: -1, a full BOOK", NOBODY, RefusalsTest::fullBook, x -> x.book(10));
    }

    private static void strike() {
        refused("Promise 12: -3 there is none", STATE, TwoGoodOfEight::new, x -> x.strike());
        refused("Promise 12: -3, all are struck", STATE, RefusalsTest::allStruck, x -> x.strike());
    }

    private static TwoGoodOfEight allStruck() {
        TwoGoodOfEight x = fullBook();
        for (int i = 0; i < 10; i++) {
            x.strike();
        }
        return x;
    }

    private static void may() {
        for (int what : new int[] {-1, 3, LEAST, GREATEST}) {
            refused("Promise 13: -2, what " + what, OTHER, x -> x.may(what));
        }
    }

    private static void likely() {
        for (int none : new int[] {-1, 7, 8, LEAST, GREATEST}) {
            refusedLong("Promise 14: -1, BATTERY " + none, NOBODY, x -> x.likely(none, 1));
            refusedLong("Promise 14: -1 ahead of -2, BATTERY " + none, NOBODY, x -> x.likely(none, 2));
        }
        refusedLong("Promise 14: -1, of two", NOBODY, RefusalsTest::two, x -> x.likely(2, 0));
        refusedLong("Promise 14: -1, of eight", NOBODY, RefusalsTest::eight, x -> x.likely(8, 0));
        for (int part : NOT_ONE_OR_NONE) {
            refusedLong("Promise 14: -2, part " + part, OTHER, x -> x.likely(6, part));
        }
    }

    private static void lit() {
        for (int part : NOT_ONE_OR_NONE) {
            refusedLong("Promise 15: -2, part " + part, OTHER, x -> x.lit(7, part));
        }
    }

    private static void best() {
        for (int what : NOT_ONE_OR_NONE) {
            refused("Promise 17: -2, what " + what, OTHER, x -> x.best(what));
            refused("Promise 17: -2 where there is no TRY", OTHER, () -> Probe.drawerOf("n2;l04;"), x -> x.best(what));
        }
    }

    private static void worst() {
        for (int i : new int[] {-2, LEAST}) {
            refused("Promise 18: -4 below -1, ahead of -3, i " + i, BELOW, x -> x.worst(i));
            refused("Promise 18: -4 below -1, i " + i, BELOW, () -> Probe.drawerOf("n6;"), x -> x.worst(i));
        }
        for (int i : new int[] {-1, 0, GREATEST}) {
            refused("Promise 18: -3, seven BATTERIES, i " + i, STATE, x -> x.worst(i));
            refused("Promise 18: -3, eight BATTERIES, i " + i, STATE, RefusalsTest::eight, x -> x.worst(i));
        }
    }

    private static void heaps() {
        for (int below : new int[] {1, 0, -1, LEAST}) {
            refused("Promise 19: -4, n " + below, BELOW, x -> x.heaps(below, 2));
            refused("Promise 19: -4, g " + below, BELOW, x -> x.heaps(2, below));
            refused("Promise 19: -4 ahead of -6 999, g " + below, BELOW, x -> x.heaps(1000, below));
            refused("Promise 19: -4 ahead of -6 n, n " + below, BELOW, x -> x.heaps(below, 3));
        }
        refused("Promise 19: -6 n 999", ROOM, x -> x.heaps(1000, 2));
        refused("Promise 19: -6 n 999, the greatest", ROOM, x -> x.heaps(GREATEST, 2));
        refused("Promise 19: -6 both", ROOM, x -> x.heaps(GREATEST, GREATEST));
        refused("Promise 19: -6 g n, of two", ROOM, x -> x.heaps(2, 3));
        refused("Promise 19: -6 g n, of 999", ROOM, x -> x.heaps(999, 1000));
        refused("Promise 19: -6 g n, the greatest", ROOM, x -> x.heaps(999, GREATEST));
    }

    private static void order() {
        refused("Promise 20: -4, i -1", BELOW, x -> x.order(-1));
        refused("Promise 20: -4, the least i", BELOW, x -> x.order(LEAST));
    }

    private static void mean() {
        for (int part : NOT_ONE_OR_NONE) {
            refusedLong("Promise 21: -2, part " + part, OTHER, x -> x.mean(part));
        }
    }

    private static void trier() {
        for (int kind : NO_KINDS) {
            refused("Promise 22: -2, KIND " + kind, OTHER, x -> x.trier(kind));
        }
    }

    private static void chain() {
        for (int n : new int[] {0, -1, LEAST}) {
            refused("Promise 23: -4, n " + n, BELOW, x -> x.chain(n, 0));
            refused("Promise 23: -4 ahead of -2, n " + n, BELOW, x -> x.chain(n, 2));
        }
        for (int n : new int[] {1000, GREATEST}) {
            refused("Promise 23: -6 999, n " + n, ROOM, x -> x.chain(n, 1));
            refused("Promise 23: -6 ahead of -2, n " + n, ROOM, x -> x.chain(n, -1));
        }
        for (int what : NOT_ONE_OR_NONE) {
            refused("Promise 23: -2, what " + what, OTHER, x -> x.chain(1, what));
            refused("Promise 23: -2, n 999, what " + what, OTHER, x -> x.chain(999, what));
        }
    }

    private static void tester() {
        for (int below : new int[] {0, -1, LEAST}) {
            refused("Promise 24: -4, t " + below, BELOW, x -> x.tester(6, below, 1));
            refused("Promise 24: -4, s " + below, BELOW, x -> x.tester(6, 1, below));
            refused("Promise 24: -4 of t ahead of -6 of r, t " + below, BELOW, x -> x.tester(10, below, 1));
            refused("Promise 24: -4 of s ahead of -6 of t, s " + below, BELOW, x -> x.tester(6, 10, below));
        }
        for (int r : new int[] {5, 0, -1, LEAST}) {
            refused("Promise 24: -4, r below 6, r " + r, BELOW, x -> x.tester(r, 1, 1));
            refused("Promise 24: -4 ahead of -6, r " + r, BELOW, x -> x.tester(r, 10, 10));
        }
        for (int above : new int[] {10, GREATEST}) {
            refused("Promise 24: -6 9, r " + above, ROOM, x -> x.tester(above, 9, 9));
            refused("Promise 24: -6 9, t " + above, ROOM, x -> x.tester(9, above, 9));
            refused("Promise 24: -6 9, s " + above, ROOM, x -> x.tester(9, 9, above));
        }
    }

    private static void forgets() {
        for (int m : new int[] {0, -1, LEAST}) {
            refusedLong("Promise 25: -4, m " + m, BELOW, x -> x.forgets(m, 0, 0));
            refusedLong("Promise 25: -4 ahead of -2 of what, m " + m, BELOW, x -> x.forgets(m, 2, 0));
            refusedLong("Promise 25: -4 ahead of -2 of part, m " + m, BELOW, x -> x.forgets(m, 0, 2));
        }
        for (int m : new int[] {100, GREATEST}) {
            refusedLong("Promise 25: -6 99, m " + m, ROOM, x -> x.forgets(m, 1, 1));
            refusedLong("Promise 25: -6 ahead of -2 of what, m " + m, ROOM, x -> x.forgets(m, -1, 0));
            refusedLong("Promise 25: -6 ahead of -2 of part, m " + m, ROOM, x -> x.forgets(m, 0, -1));
        }
        for (int other : NOT_ONE_OR_NONE) {
            refusedLong("Promise 25: -2, what " + other, OTHER, x -> x.forgets(1, other, 0));
            refusedLong("Promise 25: -2, part " + other, OTHER, x -> x.forgets(99, 1, other));
            refusedLong("Promise 25: -2, either " + other, OTHER, x -> x.forgets(99, other, other));
        }
    }

    private static void backAndPut() {
        for (int other : NO_KINDS) {
            refused("Promise 26: -2, KIND " + other, OTHER, x -> x.back(other, 5));
            refused("Promise 26: -2, RULE " + other, OTHER, x -> x.back(0, other));
            refused("Promise 26: -2, either " + other, OTHER, x -> x.back(other, other));
            refused("Promise 27: -2, KIND " + other, OTHER, x -> x.bestRule(other));
            refused("Promise 28: -2, KIND " + other, OTHER, x -> x.put(other, 5));
            refused("Promise 28: -2, RULE " + other, OTHER, x -> x.put(0, other));
            refused("Promise 28: -2, either " + other, OTHER, x -> x.put(other, other));
        }
    }

    private static void row() {
        for (int v : new int[] {-1, LEAST}) {
            refused("Promise 30: -4, v " + v, BELOW, x -> x.row(v));
            refused("Promise 30: -4 ahead of -6, v " + v, BELOW, RefusalsTest::fullRow, x -> x.row(v));
        }
        for (int v : new int[] {256, GREATEST}) {
            refused("Promise 30: -6 255, v " + v, ROOM, x -> x.row(v));
            refused("Promise 30: -6, twice, v " + v, ROOM, RefusalsTest::fullRow, x -> x.row(v));
        }
        refused("Promise 30: -6 10", ROOM, RefusalsTest::fullRow, x -> x.row(5));
        refused("Promise 30: -6 10, the least", ROOM, RefusalsTest::fullRow, x -> x.row(0));
        refused("Promise 30: -6 10, the greatest", ROOM, RefusalsTest::fullRow, x -> x.row(255));
    }

    private static void seeds() {
        for (int kind : NO_KINDS) {
            refused("Promise 32: -2, KIND " + kind, OTHER, x -> x.seeds(kind, 1, 1, 0));
            refused("Promise 32: -2 of KIND ahead of -4, KIND " + kind, OTHER, x -> x.seeds(kind, 0, 1, 0));
            refused("Promise 32: -2 of KIND ahead of -6, KIND " + kind, OTHER, x -> x.seeds(kind, 21, 1, 0));
        }
        for (int n : new int[] {0, -1, LEAST}) {
            refused("Promise 32: -4, n " + n, BELOW, x -> x.seeds(0, n, 1, 0));
            refused("Promise 32: -4 ahead of -2 of what, n " + n, BELOW, x -> x.seeds(0, n, 1, 2));
        }
        for (int n : new int[] {21, GREATEST}) {
            refused("Promise 32: -6 20, n " + n, ROOM, x -> x.seeds(5, n, 1, 1));
            refused("Promise 32: -6 ahead of -2 of what, n " + n, ROOM, x -> x.seeds(5, n, 1, -1));
        }
        for (int what : NOT_ONE_OR_NONE) {
            refused("Promise 32: -2, what " + what, OTHER, x -> x.seeds(5, 20, LEAST, what));
        }
    }

    private static void restore() {
        refused("Promise 34: -3 there is none", STATE, TwoGoodOfEight::new, x -> x.restore());
        refused("Promise 34: -3, in use, no IMAGE", STATE, () -> Probe.drawerOf("n3;t1;l13;b1012;"), x -> x.restore());
    }

    private static void nothingCounted(String sentence, long answer, String text, ToLongFunction<TwoGoodOfEight> call) {
        CHECK.about(sentence);
        TwoGoodOfEight x = Probe.drawerOf(text);
        CHECK.due("the call", call.applyAsLong(x), answer);
        for (int count : Probe.refusals(x)) {
            CHECK.due("refusals", count, 0);
        }
    }

    private static void answersThatAreNoRefusals() {
        nothingCounted("Promise 3: FAULT of kind 1 (nothing is counted)", -1000, "t;", x -> x.drawer());
        nothingCounted("Promise 3: FAULT of kind 2 (nothing is counted)", -2000, "t;", x -> Probe.told(x, "n9;"));
        nothingCounted("Promise 17: -9 is counted nowhere", -9, "n3;l04;", x -> x.best(0));
        nothingCounted("Promise 17: -9 is counted nowhere", -9, "b901;", x -> x.best(1));
        nothingCounted("Promise 18: -9 is counted nowhere", -9, "n3;g1=;", x -> x.worst(-1));
        nothingCounted("Promise 18: -9 is counted nowhere", -9, "n3;g2=;", x -> x.worst(3));
        nothingCounted("Promise 20: -9 is counted nowhere", -9, "n3;g1=;", x -> x.order(0));
        nothingCounted("Promise 22: -9 is counted nowhere", -9, "t;", x -> x.trier(0));
        nothingCounted("Promise 24: -9 is counted nowhere", -9, "t;", x -> x.tester(6, 1, 9));
        nothingCounted("Promise 26: -9 is counted nowhere", -9, "t;", x -> x.back(0, 0));
        nothingCounted("Promise 28: -9 is counted nowhere", -9, "t;", x -> x.put(0, 0));
        nothingCounted("Promise 31: -9 is counted nowhere", -9, "t;", x -> x.judge());
        nothingCounted("Promise 35: -9 for another what is counted nowhere", -9, "t;", x -> x.count(10));
        nothingCounted("Promise 35: -9 for another what is counted nowhere", -9, "t;", x -> x.count(-1));
        nothingCounted("Promise 35: -9 for another what is counted nowhere", -9, "t;", x -> x.count(17));
    }

    private static void eachNumberForItself() {
        CHECK.about("Promise 35: 11 .. 16 REFUSALS -1 .. -6");
        TwoGoodOfEight x = new TwoGoodOfEight();
        for (int times = 0; times < 5; times++) {
            x.likely(8, 0);
            x.book(0);
            x.mean(2);
            x.strike();
            x.forgets(0, 0, 0);
            x.feed(-1);
            x.feed(-2);
            x.row(256);
        }
        int[] due = {10, 5, 5, 15, 0, 5};
        for (int i = 0; i < due.length; i++) {
            CHECK.due("count(" + (11 + i) + ")", x.count(11 + i), due[i]);
        }
        CHECK.due("another's", new TwoGoodOfEight().count(14), 0);
    }
}
