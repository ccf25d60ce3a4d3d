/** What is least, greatest, empty and full in promises 19, 23 to 25 and 29 to 31: laws of numbers, suspects, told rows. */
public final class LawEdgesTest {
    private static final Check CHECK = new Check();

    public static void main(String[] args) {
        heaps();
        chain();
        tester();
        testerOrMore();
        forgets();
        suspect();
        suspectByTheBook();
        row();
        judge();
        judgeOfTries();
        CHECK.close();
    }

    private static void says(String sentence) {
        CHECK.about(sentence);
    }

    private static void due(String call, long got, long want) {
        CHECK.due(call, got, want);
    }

    // ---- Promise 19

    private static void heapsAre(int n, int g, int pairs) {
        due("heaps(" + n + ", " + g + ")", new TwoGoodOfEight().heaps(n, g), pairs);
    }

    private static void heaps() {
        says("Promise 19: the least n and g");
        heapsAre(2, 2, 1);
        heapsAre(3, 2, 3);
        says("Promise 19: the greatest n, the least g");
        heapsAre(999, 2, 498501);
        heapsAre(998, 2, 497503);
        says("Promise 19: g as great as n");
        heapsAre(3, 3, 1);
        heapsAre(8, 8, 1);
        heapsAre(999, 999, 1);
        heapsAre(999, 998, 2);
        says("Promise 19: heaps as even as can be");
        heapsAre(10, 4, 12);
        heapsAre(9, 4, 9);
        heapsAre(11, 4, 15);
        heapsAre(999, 500, 501);
        heapsAre(999, 3, 249001);
        says("Promise 19: not of those in the drawer");
        due("heaps(8, 4)", Probe.drawerOf("n2;g0=;").heaps(8, 4), 7);
    }

    // ---- Promises 23 to 25

    private static void chainIs(int n, int atWorst, int together) {
        due("chain(" + n + ", 0)", new TwoGoodOfEight().chain(n, 0), atWorst);
        due("chain(" + n + ", 1)", new TwoGoodOfEight().chain(n, 1), together);
    }

    private static void chain() {
        says("Promise 23: of one none");
        chainIs(1, 0, 0);
        says("Promise 23: the least with a TRY");
        chainIs(2, 1, 2);
        says("Promise 23: the first half n by 2, cut");
        chainIs(3, 2, 5);
        chainIs(5, 3, 12);
        says("Promise 23: the greatest");
        chainIs(998, 10, 9954);
        chainIs(999, 10, 9965);
        says("Promise 23: at worst, about a power of two");
        chainIs(511, 9, 4598);
        chainIs(512, 9, 4608);
        chainIs(513, 10, 4619);
    }

    private static void testerSays(int r, int t, int s, int times) {
        due("tester(" + r + ", " + t + ", " + s + ")", new TwoGoodOfEight().tester(r, t, s), times);
    }

    private static void tester() {
        says("Promise 24: the least and the greatest of all");
        testerSays(6, 1, 1, 0);
        testerSays(6, 9, 1, 0);
        testerSays(6, 9, 9, 0);
        testerSays(9, 1, 1, 0);
        testerSays(9, 1, 9, 2);
        testerSays(9, 9, 9, 0);
        says("Promise 24: in 9 times");
        testerSays(6, 1, 8, 9);
        testerSays(6, 2, 9, 9);
        says("Promise 24: -9 not in 9 times");
        testerSays(6, 1, 9, -9);
    }

    private static void testerOrMore() {
        says("Promise 24: so likely already");
        for (int tenths = 1; tenths <= 9; tenths++) {
            testerSays(6, tenths, tenths, 0);
        }
        says("Promise 24: one more than it is");
        int[] bySix = {2, 2, 2, 1, 1, 2, 2, 2};
        int[] byNine = {1, 1, 1, 1, 1, 1, 1, 1};
        for (int tenths = 1; tenths <= 8; tenths++) {
            testerSays(6, tenths, tenths + 1, bySix[tenths - 1]);
            testerSays(9, tenths, tenths + 1, byNine[tenths - 1]);
        }
        says("Promise 24: just s of ten is enough");
        testerSays(9, 5, 9, 1);
        testerSays(9, 1, 5, 1);
        testerSays(9, 1, 9, 2);
        testerSays(6, 1, 2, 2);
        testerSays(6, 4, 5, 1);
        testerSays(8, 5, 8, 1);
        testerSays(7, 3, 5, 1);
    }

    private static void forgetsIs(int m, int what, long above, long below) {
        due("forgets(" + m + ", " + what + ", 0)", new TwoGoodOfEight().forgets(m, what, 0), above);
        due("forgets(" + m + ", " + what + ", 1)", new TwoGoodOfEight().forgets(m, what, 1), below);
    }

    private static void forgets() {
        says("Promise 25: by lot among all, the least and the greatest");
        forgetsIs(1, 0, 1, 1);
        forgetsIs(2, 0, 2, 1);
        forgetsIs(99, 0, 99, 1);
        says("Promise 25: among those not made yet, the least and the greatest");
        forgetsIs(1, 1, 1, 1);
        forgetsIs(2, 1, 3, 2);
        forgetsIs(98, 1, 99, 2);
        forgetsIs(99, 1, 50, 1);
    }

    // ---- Promise 29

    private static void suspects(String text, int due) {
        due(text + " suspect()", Probe.drawerOf(text).suspect(), due);
    }

    private static void suspect() {
        says("Promise 29: an empty BOOK is so already");
        due("suspect()", new TwoGoodOfEight().suspect(), 0);
        suspects("n2;", 0);
        says("Promise 29: none, it is so already");
        suspects("t;b001;", 0);
        suspects(Probe.FULL_BOOK, 0);
        says("Promise 29: one each, the first and the last");
        suspects("l52;t;b10;", 1);
        suspects("l52;t;b17;", 128);
        suspects("l52;t01234567;b00;", 1);
        suspects("l52;t01234567;b07;", 128);
        says("Promise 29: all of them");
        suspects("l52;t01234567;b001234567;", 255);
        suspects("n2;t01;b001;", 3);
    }

    private static void suspectByTheBook() {
        says("Promise 29: a full BOOK");
        suspects("t024;" + Probe.FULL_BOOK, 64);
        suspects("t02467;" + Probe.FULL_BOOK, 128);
        suspects("t02;" + Probe.FULL_BOOK, 0);
        says("Promise 29: all of THE BOOK, the first and the tenth too");
        suspects("l52;t;b10;" + "b012;".repeat(9), 1);
        suspects("l52;t;" + "b012;".repeat(9) + "b10;", 1);
        suspects("l52;t;b10;" + "b012;".repeat(8) + "b11;", 0);
        says("Promise 29: none alone");
        suspects("t;b101;", 0);
        suspects("b901;", 0);
        says("Promise 29: whatever may be");
        suspects("g0=;l52;t;b10;", 1);
    }

    // ---- Promises 30 and 31

    private static void row() {
        says("Promise 30: the least and the greatest number");
        TwoGoodOfEight x = new TwoGoodOfEight();
        due("row(0)", x.row(0), 1);
        due("row(255)", x.row(255), 2);
        says("Promise 30: 10 at most");
        for (int i = 3; i <= 10; i++) {
            due("row(255)", x.row(255), i);
        }
        due("count(8)", x.count(8), 10);
        due("an eleventh", x.row(255), -6);
        says("Promise 31: whichever it answers, the ROW has none then");
        due("judge()", x.judge(), 0);
        due("count(8)", x.count(8), 0);
        due("row(3)", x.row(3), 1);
    }

    private static void judged(String text, int answer, int... numbers) {
        TwoGoodOfEight x = Probe.drawerOf(text);
        for (int number : numbers) {
            x.row(number);
        }
        due(text + " judge()", x.judge(), answer);
        due("the ROW has none then", x.count(8), 0);
        due("judge()", x.judge(), -9);
    }

    private static void judge() {
        says("Promise 31: -9, an empty ROW");
        judged("n8;", -9);
        says("Promise 31: -9, one TRY and a full ROW");
        judged("n8;", -9, 3, 0);
        judged("n8;", -9, 3, 0, 5, 1, 6, 0, 192, 0, 80, 1);
        says("Promise 31: the first number and the last of a full ROW");
        judged("n8;", 0, 7, 0, 5, 1, 6, 0, 192, 0, 80, 1);
        judged("n8;", 1, 3, 1, 5, 1, 6, 0, 192, 0, 80, 1);
        judged("n8;", 8, 3, 0, 5, 1, 6, 0, 192, 0, 7, 1);
        judged("n8;", 9, 3, 0, 5, 1, 6, 0, 192, 0, 80, 0);
        says("Promise 31: the first of several");
        judged("n8;", 1, 3, 1, 7, 1, 5, 0);
        judged("n8;", 2, 3, 0, 7, 1, 5, 0);
        says("Promise 31: where the last is, if alone");
        judged("n8;", 0, 3);
        judged("n8;", 2, 3, 0, 5);
        judged("n8;", 8, 3, 0, 5, 1, 6, 0, 192, 0, 80);
        says("Promise 31: ahead of the last that is alone");
        judged("n8;", 1, 3, 1, 5);
        judged("n8;", 2, 3, 0, 7, 1, 5);
    }

    private static void judgeOfTries() {
        says("Promise 31: no TRY, the least and the greatest number");
        judged("n8;", 0, 0, 0);
        judged("n8;", 0, 255, 0);
        judged("n2;", 0, 5, 0);
        judged("n2;", -9, 3, 0);
        judged("l52;", 0, 0, 0);
        judged("l52;", -9, 255, 0);
        judged("l52;t01234567;", -9, 255, 1);
        judged("n7;l52;t01234;", 2, 127, 0, 128, 0);
        says("Promise 31: told, the greatest number");
        judged("n8;", 1, 3, 255);
        judged("l14;t4567;", -9, 240, 4, 15, 0);
        judged("l44;t4567;", -9, 240, 2);
        judged("l44;t4567;", 1, 240, 4);
        says("Promise 31: a ROW is no TRY");
        TwoGoodOfEight x = new TwoGoodOfEight();
        x.row(3);
        x.row(0);
        x.judge();
        due("count(1)", x.count(1), 0);
    }
}
