import java.util.Random;

/** Runs of calls by seeds, each answer held against Plain's; behind each run all counts. */
public final class AgainstPlainTest {
    private static final int RUNS = 500;
    private static final int CALLS = 400;
    private static final int COVERS_A_RUN = 3;
    private static final String STARTS = "nktglb";

    private final Random random;
    private final TwoGoodOfEight x = new TwoGoodOfEight();
    private final Plain y = new Plain();
    private final StringBuilder told = new StringBuilder();
    private int coversLeft = COVERS_A_RUN;
    private int wrong = 0;

    private AgainstPlainTest(long seed) {
        random = new Random(seed);
    }

    public static void main(String[] args) {
        int runs = args.length > 0 ? Integer.parseInt(args[0]) : RUNS;
        int first = args.length > 1 ? Integer.parseInt(args[1]) : 0;
        int wrong = 0;
        for (int run = first; run < first + runs; run++) {
            AgainstPlainTest one = new AgainstPlainTest(run);
            one.play();
            wrong += one.wrong;
            if (one.wrong > 0) {
                System.out.println("run by seed " + run + ":" + one.told);
            }
        }
        System.out.println(runs + " runs against Plain, " + wrong + " wrong answers");
        if (wrong != 0) {
            System.exit(1);
        }
    }

    private void play() {
        int focus = random.nextInt(5);
        for (int i = 0; i < CALLS && wrong == 0; i++) {
            int which = random.nextInt(10) < 3 ? focus : random.nextInt(5);
            switch (which) {
                case 0:
                    change();
                    break;
                case 1:
                    makeTry();
                    break;
                case 2:
                    askMay();
                    break;
                case 3:
                    askTrier();
                    break;
                default:
                    askOther();
                    break;
            }
        }
        for (int what = -2; what < 20 && wrong == 0; what++) {
            due("count(" + what + ")", x.count(what), y.count(what));
        }
        for (int b = 0; b < 8 && wrong == 0; b++) {
            for (int what = 0; what < 5; what++) {
                due("battery(" + b + ", " + what + ")", x.battery(b, what), y.battery(b, what));
            }
        }
    }

    private void due(String call, long got, long want) {
        told.append(' ').append(call);
        if (got != want) {
            wrong++;
            told.append("\n  answered ").append(got).append(", due is ").append(want).append('\n');
        }
    }

    /** A number that is mostly within what is asked for, now and then at its edge or far out. */
    private int some(int least, int greatest) {
        switch (random.nextInt(24)) {
            case 0:
                return least - 1;
            case 1:
                return greatest + 1;
            case 2:
                return random.nextInt(8) == 0 ? random.nextInt() : least;
            default:
                return least + random.nextInt(greatest - least + 1);
        }
    }

    private int someTry() {
        int size = y.count(5) == 5 ? 1 + random.nextInt(4) : y.count(6);
        if (random.nextInt(12) == 0) {
            return some(0, 255);
        }
        int set = 0;
        int n = y.count(0);
        for (int step = 0; step < 100 && Integer.bitCount(set) < size; step++) {
            set |= 1 << random.nextInt(n);
        }
        return set;
    }

    private void change() {
        switch (random.nextInt(9)) {
            case 0:
            case 1: {
                int b = some(0, y.count(0) - 1);
                int k = some(0, 5);
                int f = some(0, 9);
                due("kind(" + b + ", " + k + ", " + f + ")", x.kind(b, k, f), y.kind(b, k, f));
                break;
            }
            case 2: {
                int set = random.nextInt(12) == 0 ? some(0, 255) : random.nextInt(1 << y.count(0));
                due("truly(" + set + ")", x.truly(set), y.truly(set));
                break;
            }
            case 3:
            case 4: {
                int g = some(0, y.count(0));
                int l = some(0, 1);
                due("good(" + g + ", " + l + ")", x.good(g, l), y.good(g, l));
                break;
            }
            case 5: {
                int k = some(0, 5);
                int needs = some(2, 4);
                due("lamp(" + k + ", " + needs + ")", x.lamp(k, needs), y.lamp(k, needs));
                break;
            }
            case 6:
                due("image()", x.image(), y.image());
                break;
            case 7:
                if (random.nextInt(3) == 0) {
                    due("restore()", x.restore(), y.restore());
                }
                break;
            default:
                letters();
                break;
        }
    }

    private void letters() {
        StringBuilder text = new StringBuilder();
        int statements = random.nextInt(12) == 0 ? 18 + random.nextInt(8) : 1 + random.nextInt(5);
        for (int i = 0; i < statements; i++) {
            text.append(statement());
        }
        if (random.nextInt(6) == 0) {
            int place = random.nextInt(text.length() + 1);
            switch (random.nextInt(3)) {
                case 0:
                    text.insert(place, "nktglb0123456789=+;x ".charAt(random.nextInt(21)));
                    break;
                case 1:
                    text.setLength(place);
                    break;
                default:
                    text.deleteCharAt(Math.min(place, text.length() - 1));
                    break;
            }
        }
        for (int i = 0; i < text.length(); i++) {
            due("feed(" + (int) text.charAt(i) + ")", x.feed(text.charAt(i)), y.feed(text.charAt(i)));
        }
        if (random.nextInt(15) == 0) {
            int letter = some(0, 255);
            due("feed(" + letter + ")", x.feed(letter), y.feed(letter));
        }
        due("drawer()", x.drawer(), y.drawer());
    }

    private String statement() {
        int n = y.count(0);
        char head = STARTS.charAt(random.nextInt(STARTS.length()));
        switch (head) {
            case 'n':
                return "n" + digit(2, 8) + ";";
            case 'k':
                return "k" + digit(0, n - 1) + digit(0, 5) + digit(0, 9) + ";";
            case 't':
                return "t" + digits(random.nextInt(9), n) + ";";
            case 'g':
                return "g" + digit(0, n) + (random.nextBoolean() ? "=" : "+") + ";";
            case 'l':
                return "l" + digit(0, 5) + digit(2, 4) + ";";
            default:
                return "b" + digit(0, 1) + tryDigits() + ";";
        }
    }

    private String tryDigits() {
        StringBuilder text = new StringBuilder();
        int set = someTry();
        for (int b = 0; b < 8; b++) {
            if ((set >> b & 1) == 1) {
                text.append(b);
            }
        }
        return text.length() == 0 ? "0" : text.toString();
    }

    private String digits(int howMany, int n) {
        StringBuilder text = new StringBuilder();
        for (int i = 0; i < howMany; i++) {
            text.append(digit(0, n - 1));
        }
        return text.toString();
    }

    private int digit(int least, int greatest) {
        return random.nextInt(40) == 0 ? random.nextInt(10) : least + random.nextInt(greatest - least + 1);
    }

    private void makeTry() {
        switch (random.nextInt(6)) {
            case 0: {
                int set = someTry();
                due("would(" + set + ")", x.would(set), y.would(set));
                break;
            }
            case 1: {
                int i = some(0, Math.max(0, y.count(1) - 1));
                due("book(" + i + ")", x.book(i), y.book(i));
                break;
            }
            case 2:
                due("strike()", x.strike(), y.strike());
                break;
            default: {
                int set = someTry();
                due("tries(" + set + ")", x.tries(set), y.tries(set));
                break;
            }
        }
    }

    private void askMay() {
        switch (random.nextInt(9)) {
            case 0: {
                int what = some(0, 2);
                due("may(" + what + ")", x.may(what), y.may(what));
                break;
            }
            case 1: {
                int b = some(0, y.count(0) - 1);
                int part = some(0, 1);
                due("likely(" + b + ", " + part + ")", x.likely(b, part), y.likely(b, part));
                break;
            }
            case 2: {
                int set = someTry();
                int part = some(0, 1);
                due("lit(" + set + ", " + part + ")", x.lit(set, part), y.lit(set, part));
                break;
            }
            case 3: {
                int set = someTry();
                due("leaves(" + set + ")", x.leaves(set), y.leaves(set));
                break;
            }
            case 4: {
                int what = some(0, 1);
                due("best(" + what + ")", x.best(what), y.best(what));
                break;
            }
            case 5: {
                int i = some(-1, 6);
                if (y.count(0) > 6 || i < -1 || coversLeft > 0) {
                    due("worst(" + i + ")", x.worst(i), y.worst(i));
                    coversLeft -= y.count(0) > 6 || i < -1 ? 0 : 1;
                }
                break;
            }
            case 6: {
                int i = some(0, 19);
                due("order(" + i + ")", x.order(i), y.order(i));
                break;
            }
            case 7: {
                int part = some(0, 1);
                due("mean(" + part + ")", x.mean(part), y.mean(part));
                break;
            }
            default: {
                int what = some(0, 16);
                due("count(" + what + ")", x.count(what), y.count(what));
                break;
            }
        }
    }

    private void askTrier() {
        int kind = some(0, 5);
        int rule = some(0, 5);
        switch (random.nextInt(6)) {
            case 0:
            case 1:
                due("trier(" + kind + ")", x.trier(kind), y.trier(kind));
                break;
            case 2:
                due("back(" + kind + ", " + rule + ")", x.back(kind, rule), y.back(kind, rule));
                break;
            case 3:
                due("bestRule(" + kind + ")", x.bestRule(kind), y.bestRule(kind));
                break;
            case 4:
                due("put(" + kind + ", " + rule + ")", x.put(kind, rule), y.put(kind, rule));
                break;
            default: {
                int n = some(1, 20);
                int z = random.nextInt();
                int what = some(0, 1);
                due("seeds(" + kind + ", " + n + ", " + z + ", " + what + ")",
                    x.seeds(kind, n, z, what), y.seeds(kind, n, z, what));
                break;
            }
        }
    }

    private void askOther() {
        switch (random.nextInt(8)) {
            case 0: {
                int n = some(2, random.nextBoolean() ? 20 : 999);
                int g = some(2, Math.max(2, n));
                due("heaps(" + n + ", " + g + ")", x.heaps(n, g), y.heaps(n, g));
                break;
            }
            case 1: {
                int n = some(1, random.nextBoolean() ? 20 : 999);
                int what = some(0, 1);
                due("chain(" + n + ", " + what + ")", x.chain(n, what), y.chain(n, what));
                break;
            }
            case 2: {
                int r = some(6, 9);
                int t = some(1, 9);
                int s = some(1, 9);
                due("tester(" + r + ", " + t + ", " + s + ")", x.tester(r, t, s), y.tester(r, t, s));
                break;
            }
            case 3: {
                int m = some(1, 99);
                int what = some(0, 1);
                int part = some(0, 1);
                due("forgets(" + m + ", " + what + ", " + part + ")", x.forgets(m, what, part), y.forgets(m, what, part));
                break;
            }
            case 4:
                due("suspect()", x.suspect(), y.suspect());
                break;
            case 5:
            case 6:
                numbers();
                break;
            default: {
                int b = some(0, y.count(0) - 1);
                int what = some(0, 4);
                due("battery(" + b + ", " + what + ")", x.battery(b, what), y.battery(b, what));
                break;
            }
        }
    }

    private void numbers() {
        int pairs = random.nextInt(6);
        for (int i = 0; i < pairs; i++) {
            int set = someTry();
            int would = y.would(set);
            due("would(" + set + ")", x.would(set), would);
            due("row(" + set + ")", x.row(set), y.row(set));
            int answer = random.nextInt(8) == 0 ? some(0, 255) : Math.max(0, would);
            due("row(" + answer + ")", x.row(answer), y.row(answer));
        }
        if (random.nextInt(4) == 0) {
            int v = some(0, 255);
            due("row(" + v + ")", x.row(v), y.row(v));
        }
        if (random.nextInt(6) != 0) {
            due("judge()", x.judge(), y.judge());
        }
    }
}
