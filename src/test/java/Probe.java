import java.util.ArrayList;
import java.util.List;

/** Objects to begin a test with, and what can be seen of one. */
final class Probe {
    static final int LEAST = Integer.MIN_VALUE;
    static final int GREATEST = Integer.MAX_VALUE;
    static final long LONG_REFUSAL = 4000000000000000000L;
    /** Ten TRIES of a CHAIN that leave one world: 0, 2, 4 and 6 are good. */
    static final String FULL_BOOK = "l52;b10;b01;b12;b03;b14;b05;b16;b07;b10246;b001;";

    private Probe() {
    }

    static void feed(TwoGoodOfEight x, String text) {
        for (int i = 0; i < text.length(); i++) {
            x.feed(text.charAt(i));
        }
    }

    static int told(TwoGoodOfEight x, String text) {
        feed(x, text);
        return x.drawer();
    }

    static TwoGoodOfEight drawerOf(String text) {
        TwoGoodOfEight x = new TwoGoodOfEight();
        int answer = told(x, text);
        if (answer <= 0) {
            throw new IllegalArgumentException(text + " is no drawer: " + answer);
        }
        return x;
    }

    /** Seven batteries of several kinds, moved; a book, an image that is another, letters and a row: all to be kept. */
    static TwoGoodOfEight inUse() {
        TwoGoodOfEight x = drawerOf("n5;k051;k113;t02;g1+;l12;b101;b102;");
        x.put(0, 5);
        x.image();
        told(x, "n7;k012;k345;k657;t0246;g3+;l23;b1012;b0345;");
        x.put(0, 4);
        feed(x, "k512;t13;");
        for (int number : new int[] {0b10101, 1, 0b1011, 0}) {
            x.row(number);
        }
        return x;
    }

    /** All that can be asked for without a change, but refusals. */
    static List<Long> seen(TwoGoodOfEight x) {
        List<Long> all = new ArrayList<>();
        for (int what = 0; what <= 9; what++) {
            all.add((long) x.count(what));
        }
        for (int b = 0; b < x.count(0); b++) {
            for (int what = 0; what <= 4; what++) {
                all.add((long) x.battery(b, what));
            }
        }
        for (int i = 0; i < x.count(1); i++) {
            all.add((long) x.book(i));
        }
        return all;
    }

    /** What is seen now, what the row and the letters hold, what is seen behind them, and what the image holds. */
    static List<Long> spent(TwoGoodOfEight x) {
        List<Long> all = seen(x);
        all.add((long) x.judge());
        all.add((long) x.drawer());
        all.addAll(seen(x));
        all.add((long) x.restore());
        all.addAll(seen(x));
        return all;
    }

    static int[] refusals(TwoGoodOfEight x) {
        int[] counts = new int[6];
        for (int i = 0; i < 6; i++) {
            counts[i] = x.count(11 + i);
        }
        return counts;
    }
}
