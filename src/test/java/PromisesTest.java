/** Each promise by hand: ordinary calls, the edges that the document names, each refusal and their order. */
public final class PromisesTest {
    private static final long LONG_REFUSAL = 4000000000000000000L;
    private static final Check CHECK = new Check();

    public static void main(String[] args) {
        newObject();
        feed();
        drawerStatements();
        drawerMisspelt();
        drawerNotAsItMustBe();
        drawerAllOrNothing();
        battery();
        kind();
        truly();
        good();
        lamp();
        would();
        tries();
        book();
        strike();
        may();
        likely();
        lit();
        leaves();
        best();
        worst();
        heaps();
        order();
        mean();
        trier();
        trierWrites();
        trierKnows();
        chain();
        tester();
        forgets();
        back();
        bestRule();
        put();
        suspect();
        row();
        judge();
        seeds();
        image();
        restore();
        count();
        CHECK.close();
    }

    private static void due(String call, long got, long want) {
        CHECK.due(call, got, want);
    }

    private static int told(TwoGoodOfEight x, String text) {
        for (int i = 0; i < text.length(); i++) {
            x.feed(text.charAt(i));
        }
        return x.drawer();
    }

    private static TwoGoodOfEight drawerOf(String text) {
        TwoGoodOfEight x = new TwoGoodOfEight();
        CHECK.holds("drawer of " + text, told(x, text) > 0);
        return x;
    }

    /** All that count, battery, book tell, but refusals, as one number: to see that nothing changed. */
    private static long sum(TwoGoodOfEight x) {
        long sum = 0;
        for (int what = 0; what <= 9; what++) {
            sum = 31 * sum + x.count(what);
        }
        for (int b = 0; b < x.count(0); b++) {
            for (int what = 0; what <= 4; what++) {
                sum = 31 * sum + x.battery(b, what);
            }
        }
        for (int i = 0; i < x.count(1); i++) {
            sum = 31 * sum + x.book(i);
        }
        return sum;
    }

    private static void refused(TwoGoodOfEight x, int n1, int n2, int n3, int n4, int n6) {
        due("count(11)", x.count(11), n1);
        due("count(12)", x.count(12), n2);
        due("count(13)", x.count(13), n3);
        due("count(14)", x.count(14), n4);
        due("count(15)", x.count(15), 0);
        due("count(16)", x.count(16), n6);
    }

    private static void newObject() {
        CHECK.about("Promise 1");
        TwoGoodOfEight x = new TwoGoodOfEight();
        int[] counts = {8, 0, 4, 4, 0, 0, 2, 0, 0, 70, -9, 0, 0, 0, 0, 0, 0};
        for (int what = 0; what < counts.length; what++) {
            due("count(" + what + ")", x.count(what), counts[what]);
        }
        for (int b = 0; b < 8; b++) {
            int[] of = {0, 0, 5, b % 2 == 0 ? 1 : 0, b};
            for (int what = 0; what < 5; what++) {
                due("battery(" + b + ", " + what + ")", x.battery(b, what), of[what]);
            }
        }
        due("another's", new TwoGoodOfEight().truly(0), 85);
    }

    private static void feed() {
        CHECK.about("Promise 2");
        TwoGoodOfEight x = new TwoGoodOfEight();
        due("feed(0)", x.feed(0), 1);
        due("feed(255)", x.feed(255), 2);
        due("feed(-1)", x.feed(-1), -4);
        due("feed(256)", x.feed(256), -6);
        due("feed(least)", x.feed(Integer.MIN_VALUE), -4);
        due("feed(greatest)", x.feed(Integer.MAX_VALUE), -6);
        for (int i = 3; i <= 96; i++) {
            due("feed", x.feed(';'), i);
        }
        due("feed, 97th", x.feed('n'), -6);
        due("feed(-1), 97th", x.feed(-1), -4);
        due("count(7)", x.count(7), 96);
        refused(x, 0, 0, 0, 3, 3);
    }

    private static void drawerStatements() {
        CHECK.about("Promise 3, statements");
        TwoGoodOfEight x = drawerOf("k345;t1;l43;b0012;g2+;");
        due("kind of 3", x.battery(3, 0), 4);
        due("figure of 3", x.battery(3, 1), 5);
        due("lamp's kind", x.count(5), 4);
        due("needs", x.count(6), 3);
        due("book(0)", x.book(0), 70);
        due("g", x.count(3), 2);
        due("at least", x.count(4), 1);
        x.put(0, 5);
        due("n5;", told(x, "n5;"), 1);
        due("count(0)", x.count(0), 5);
        due("truly", x.truly(0), 0b10101);
        due("kind of 3", x.battery(3, 0), 0);
        due("figure of 3", x.battery(3, 1), 0);
        due("place of 3", x.battery(3, 4), 3);
        due("book", x.count(1), 0);
        due("g as it was", x.count(3), 2);
        due("at least as it was", x.count(4), 1);
        due("the lamp stays", x.count(5), 4);
        due("its needs too", x.count(6), 3);
        due("g4=;n3;", told(x, "g4=;n3;"), 2);
        due("g no more than that", x.count(3), 3);
        due("n8; g does not grow", told(x, "n8;"), 1);
        due("g", x.count(3), 3);
        due("t, each may come again", told(x, "t77701;"), 1);
        due("truly", x.truly(0), 0b10000011);
        due("t of eight", told(x, "t01234567;"), 1);
        due("truly", x.truly(0), 255);
        due("l clears the book", told(x, "l02;b101;b902;l12;"), 4);
        due("book", x.count(1), 0);
        due("lamp", x.lamp(0, 2), 12);
        due("b, told as a digit", told(x, "b976;"), 1);
        due("book(0)", x.book(0), 10 * 0b11000000 + 9);
        due("b of a chain", told(x, "l54;b10;b076543210;"), 3);
        due("book(0)", x.book(0), 11);
        due("book(1)", x.book(1), 2550);
        due("letters are no more", x.count(7), 0);
        String most = "k000;" + "g1=;".repeat(22) + "n8;";
        due("as many letters as can be", most.length(), 96);
        due("96 letters", told(x, most), 24);
        refused(x, 0, 0, 0, 0, 0);
    }

    private static void misspelt(String text, int place) {
        TwoGoodOfEight x = new TwoGoodOfEight();
        due(text, told(x, text), -1000 - place);
        due("letters behind it", x.count(7), 0);
        refused(x, 0, 0, 0, 0, 0);
    }

    private static void drawerMisspelt() {
        CHECK.about("Promise 3, kind 1");
        misspelt("", 0);
        misspelt(";", 0);
        misspelt("x", 0);
        misspelt("N6;", 0);
        misspelt("n", 1);
        misspelt("nn", 1);
        misspelt("n;", 1);
        misspelt("n6", 2);
        misspelt("n66;", 2);
        misspelt("n6;;", 3);
        misspelt("n6; ", 3);
        misspelt("n6;k", 4);
        misspelt("k00;", 3);
        misspelt("k0000;", 4);
        misspelt("k/", 1);
        misspelt("k:", 1);
        misspelt("t", 1);
        misspelt("t01234567", 9);
        misspelt("t012345670;", 9);
        misspelt("t0,1;", 2);
        misspelt("g=;", 1);
        misspelt("g3;", 2);
        misspelt("g3=", 3);
        misspelt("g3+", 3);
        misspelt("g3=+;", 3);
        misspelt("g3-;", 2);
        misspelt("l0;", 2);
        misspelt("l02", 3);
        misspelt("l022;", 3);
        misspelt("b", 1);
        misspelt("b;", 1);
        misspelt("b1;", 2);
        misspelt("b101", 4);
        misspelt("b101234567", 10);
        misspelt("b1012345670;", 10);
        misspelt("n1;x", 3);
        misspelt("n9;n9;n", 7);
        misspelt("g1=;".repeat(23) + "b012", 96);
    }

    private static void notAsItMustBe(String text, int place) {
        TwoGoodOfEight x = new TwoGoodOfEight();
        due(text, told(x, text), -2000 - place);
        due("letters behind it", x.count(7), 0);
        refused(x, 0, 0, 0, 0, 0);
    }

    private static void drawerNotAsItMustBe() {
        CHECK.about("Promise 3, kind 2");
        notAsItMustBe("n0;", 0);
        notAsItMustBe("n1;", 0);
        notAsItMustBe("n9;", 0);
        notAsItMustBe("n2;k200;", 3);
        notAsItMustBe("k800;", 0);
        notAsItMustBe("k060;", 0);
        notAsItMustBe("t8;", 0);
        notAsItMustBe("t9;", 0);
        notAsItMustBe("n7;t01237;", 3);
        notAsItMustBe("n3;g4=;", 3);
        notAsItMustBe("g9+;", 0);
        notAsItMustBe("l62;", 0);
        notAsItMustBe("l01;", 0);
        notAsItMustBe("l05;", 0);
        notAsItMustBe("b0012;", 0);
        notAsItMustBe("b00;", 0);
        notAsItMustBe("b000;", 0);
        notAsItMustBe("l52;b000;", 4);
        notAsItMustBe("l03;b0001;", 4);
        notAsItMustBe("b018;", 0);
        notAsItMustBe("b019;", 0);
        notAsItMustBe("n2;b012;", 3);
        notAsItMustBe("l13;b101;b1012;", 4);
        notAsItMustBe("b001;".repeat(11), 50);
        notAsItMustBe("g8=;n2;k010;t2;n9;", 12);
    }

    private static void drawerAllOrNothing() {
        CHECK.about("Promise 3, nothing of it");
        TwoGoodOfEight x = drawerOf("n6;k012;t05;g3+;l12;b101;b202;");
        long before = sum(x);
        due("kind 2", told(x, "n4;t1;g1=;l42;b101;k400;"), -2019);
        due("as it was", sum(x), before);
        due("kind 1", told(x, "n4;t1;g1=;l42;b101;k40;"), -1022);
        due("as it was", sum(x), before);
        due("none", x.drawer(), -1000);
        due("as it was", sum(x), before);
        String full = "b001;".repeat(8);
        due("room for eight more", told(x, full), 8);
        due("ten", x.count(1), 10);
        due("no room", told(x, "b001;"), -2000);
        due("ten", x.count(1), 10);
        due("room again", told(x, "l12;b001;"), 2);
    }

    private static void battery() {
        CHECK.about("Promise 4");
        TwoGoodOfEight x = new TwoGoodOfEight();
        int[][] tenths = {{5, 5, 5}, {3, 3, 3}, {8, 8, 8}, {1, 1, 1}, {8, 9, 8}, {3, 3, 3}};
        for (int kind = 0; kind < 6; kind++) {
            for (int figure = 0; figure < 3; figure++) {
                x.kind(1, kind, figure);
                due("KIND", x.battery(1, 0), kind);
                due("FIGURE", x.battery(1, 1), figure);
                due("TENTHS of KIND " + kind + ", FIGURE " + figure, x.battery(1, 2), tenths[kind][figure]);
            }
        }
        int[] rolled = {3, 3, 3, 4, 4, 4, 5, 5, 5, 6};
        for (int figure = 0; figure < 10; figure++) {
            x.kind(7, 5, figure);
            due("TENTHS, ROLLED " + figure, x.battery(7, 2), rolled[figure]);
            x.kind(7, 4, figure);
            due("TENTHS, PACKED " + figure, x.battery(7, 2), 8 + figure % 2);
        }
        x.truly(0b10000001);
        due("battery(0, 3)", x.battery(0, 3), 1);
        due("battery(7, 3)", x.battery(7, 3), 1);
        due("battery(6, 3)", x.battery(6, 3), 0);
        x.put(0, 5);
        due("battery(0, 4)", x.battery(0, 4), 7);
        due("battery(7, 4)", x.battery(7, 4), 0);
        due("battery(-1, 0)", x.battery(-1, 0), -1);
        due("battery(8, 0)", x.battery(8, 0), -1);
        due("battery(8, 5)", x.battery(8, 5), -1);
        due("battery(0, 5)", x.battery(0, 5), -2);
        due("battery(0, -1)", x.battery(0, -1), -2);
        told(x, "n2;");
        due("battery(2, 0)", x.battery(2, 0), -1);
        due("battery(1, 0)", x.battery(1, 0), 0);
        refused(x, 4, 2, 0, 0, 0);
    }

    private static void kind() {
        CHECK.about("Promise 5");
        TwoGoodOfEight x = new TwoGoodOfEight();
        due("kind(2, 5, 7)", x.kind(2, 5, 7), 0);
        due("kind(2, 1, 9)", x.kind(2, 1, 9), 57);
        due("kind(2, 0, 0)", x.kind(2, 0, 0), 19);
        x.tries(3);
        due("kind(7, 5, 0)", x.kind(7, 5, 0), 0);
        due("the book stays", x.count(1), 1);
        long before = sum(x);
        due("kind(8, 6, -1)", x.kind(8, 6, -1), -1);
        due("kind(-1, 0, 0)", x.kind(-1, 0, 0), -1);
        due("kind(0, 6, -1)", x.kind(0, 6, -1), -2);
        due("kind(0, -1, 10)", x.kind(0, -1, 10), -2);
        due("kind(0, 5, -1)", x.kind(0, 5, -1), -4);
        due("kind(0, 5, 10)", x.kind(0, 5, 10), -6);
        due("as it was", sum(x), before);
        refused(x, 2, 2, 0, 1, 1);
    }

    private static void truly() {
        CHECK.about("Promise 6");
        TwoGoodOfEight x = new TwoGoodOfEight();
        due("truly(3)", x.truly(3), 85);
        due("truly(255)", x.truly(255), 3);
        due("truly(256)", x.truly(256), -1);
        due("truly(-1)", x.truly(-1), -1);
        due("truly(least)", x.truly(Integer.MIN_VALUE), -1);
        due("truly(0)", x.truly(0), 255);
        told(x, "n3;");
        due("truly(8)", x.truly(8), -1);
        due("truly(7)", x.truly(7), 5);
        due("count(2)", x.count(2), 3);
        refused(x, 4, 0, 0, 0, 0);
    }

    private static void good() {
        CHECK.about("Promise 7");
        TwoGoodOfEight x = new TwoGoodOfEight();
        due("good(3, 1)", x.good(3, 1), 8);
        due("worlds of at least 3", x.may(0), 219);
        due("good(8, 0)", x.good(8, 0), 7);
        due("worlds of just 8", x.may(0), 1);
        due("good(0, 1)", x.good(0, 1), 16);
        due("worlds of at least none", x.may(0), 256);
        due("good(0, 0)", x.good(0, 0), 1);
        long before = sum(x);
        due("good(9, 2)", x.good(9, 2), -2);
        due("good(-1, -1)", x.good(-1, -1), -2);
        due("good(-1, 0)", x.good(-1, 0), -4);
        due("good(9, 0)", x.good(9, 0), -6);
        due("as it was", sum(x), before);
        told(x, "n2;");
        due("good(3, 0)", x.good(3, 0), -6);
        due("good(2, 0)", x.good(2, 0), 0);
        refused(x, 0, 2, 0, 1, 2);
    }

    private static void lamp() {
        CHECK.about("Promise 8");
        TwoGoodOfEight x = new TwoGoodOfEight();
        x.tries(3);
        long before = sum(x);
        due("lamp(6, 1)", x.lamp(6, 1), -2);
        due("lamp(-1, 5)", x.lamp(-1, 5), -2);
        due("lamp(0, 1)", x.lamp(0, 1), -4);
        due("lamp(0, 5)", x.lamp(0, 5), -6);
        due("as it was", sum(x), before);
        due("lamp(5, 4)", x.lamp(5, 4), 2);
        due("the book is empty", x.count(1), 0);
        x.tries(3);
        due("lamp(0, 2)", x.lamp(0, 2), 54);
        due("the book is empty", x.count(1), 0);
        due("count(5)", x.count(5), 0);
        due("count(6)", x.count(6), 2);
        refused(x, 0, 2, 0, 1, 1);
    }

    private static void would() {
        CHECK.about("Promise 9");
        TwoGoodOfEight x = new TwoGoodOfEight();
        x.truly(0b1011);
        int[][] of = {{0, 0, 0, 0, 0, 0}, {0, 1, 0, 1, 1, 0}, {0, 2, 1, 0, 2, 0}, {1, 3, 1, 1, 2, 1}};
        int[] sets = {0b1110000, 0b0110001, 0b10011, 0b1011};
        for (int kind = 0; kind < 6; kind++) {
            x.lamp(kind, 3);
            for (int many = 0; many < 4; many++) {
                due("KIND " + kind + " with " + many + " good", x.would(sets[many]), of[many][kind]);
            }
        }
        due("CHAIN, would(1)", x.would(1), 1);
        due("CHAIN, would(4)", x.would(4), 0);
        due("CHAIN, would(255)", x.would(255), 0);
        due("CHAIN, would(0)", x.would(0), -1);
        due("CHAIN, would(256)", x.would(256), -1);
        x.lamp(0, 4);
        due("would(15)", x.would(15), 0);
        due("would(7)", x.would(7), -1);
        due("would(31)", x.would(31), -1);
        due("would(-1)", x.would(-1), -1);
        due("nothing is made", x.count(1), 0);
        refused(x, 5, 0, 0, 0, 0);
    }

    private static void tries() {
        CHECK.about("Promise 10");
        TwoGoodOfEight x = new TwoGoodOfEight();
        due("tries(3)", x.tries(3), 0);
        due("tries(5)", x.tries(5), 1);
        due("tries(7)", x.tries(7), -1);
        due("tries(0)", x.tries(0), -1);
        due("tries(-2147483646)", x.tries(-2147483646), -1);
        for (int i = 2; i < 10; i++) {
            due("tries(3)", x.tries(3), 0);
        }
        due("count(1)", x.count(1), 10);
        due("tries(3), no room", x.tries(3), -6);
        due("tries(7), no TRY first", x.tries(7), -1);
        due("count(1)", x.count(1), 10);
        x.strike();
        due("tries(80)", x.tries(80), 1);
        due("book(9)", x.book(9), 801);
        refused(x, 4, 0, 0, 0, 1);
        TwoGoodOfEight y = drawerOf("n2;");
        due("no such battery", y.tries(6), -1);
    }

    private static void book() {
        CHECK.about("Promise 11");
        TwoGoodOfEight x = drawerOf("l14;t0123;");
        x.tries(15);
        x.tries(0b11110000);
        due("book(0)", x.book(0), 154);
        due("book(1)", x.book(1), 2400);
        due("book(2)", x.book(2), -1);
        due("book(-1)", x.book(-1), -1);
        x.truly(0);
        due("as it was told", x.book(0), 154);
        x.strike();
        due("book(1), struck", x.book(1), -1);
        refused(x, 3, 0, 0, 0, 0);
    }

    private static void strike() {
        CHECK.about("Promise 12");
        TwoGoodOfEight x = new TwoGoodOfEight();
        due("strike()", x.strike(), -3);
        x.tries(3);
        x.tries(5);
        due("strike()", x.strike(), 1);
        due("may(0)", x.may(0), 55);
        due("strike()", x.strike(), 0);
        due("may(0)", x.may(0), 70);
        due("strike()", x.strike(), -3);
        refused(x, 0, 0, 2, 0, 0);
    }

    private static void may() {
        CHECK.about("Promise 13");
        TwoGoodOfEight x = drawerOf("n3;g2=;t12;");
        due("may(0)", x.may(0), 3);
        x.tries(3);
        due("may(0)", x.may(0), 2);
        due("may(1)", x.may(1), 4);
        due("may(2)", x.may(2), 0);
        x.tries(5);
        due("may(0)", x.may(0), 1);
        due("may(1)", x.may(1), 6);
        due("may(2)", x.may(2), 1);
        told(x, "b101;");
        due("none, may(0)", x.may(0), 0);
        due("none, may(1)", x.may(1), 0);
        due("none, may(2)", x.may(2), 0);
        due("may(3)", x.may(3), -2);
        due("may(-1)", x.may(-1), -2);
        refused(x, 0, 2, 0, 0, 0);
        String[] texts = {"l02;b001;", "l12;b101;", "l22;b101;", "l32;b001;", "l13;b2012;", "l43;b2012;", "l52;b0012;",
            "l52;b10;"};
        int[] worlds = {5, 4, 5, 2, 3, 3, 6, 3};
        for (int i = 0; i < texts.length; i++) {
            due(texts[i], drawerOf("n4;g2=;" + texts[i]).may(0), worlds[i]);
        }
        due("at least two of four", drawerOf("n4;g2+;").may(0), 11);
        due("g none", drawerOf("n4;g0=;").may(2), 15);
        due("g all", drawerOf("n4;g4+;").may(1), 15);
    }

    private static void likely() {
        CHECK.about("Promise 14");
        TwoGoodOfEight x = drawerOf("n2;k020;k110;g1=;");
        due("likely(0, 0)", x.likely(0, 0), 28);
        due("likely(0, 1)", x.likely(0, 1), 31);
        due("likely(1, 0)", x.likely(1, 0), 3);
        due("likely(1, 1)", x.likely(1, 1), 31);
        x.good(2, 0);
        due("likely(0, 0)", x.likely(0, 0), 1);
        due("likely(0, 1)", x.likely(0, 1), 1);
        x.good(0, 0);
        due("likely(0, 0)", x.likely(0, 0), 0);
        due("likely(0, 1)", x.likely(0, 1), 1);
        x.good(0, 1);
        due("at least none, likely(0, 0)", x.likely(0, 0), 4);
        due("at least none, likely(0, 1)", x.likely(0, 1), 5);
        told(x, "b001;b101;");
        due("none, likely(0, 0)", x.likely(0, 0), 0);
        due("none, likely(0, 1)", x.likely(0, 1), 1);
        due("likely(2, 2)", x.likely(2, 2), LONG_REFUSAL + 1);
        due("likely(-1, 0)", x.likely(-1, 0), LONG_REFUSAL + 1);
        due("likely(0, 2)", x.likely(0, 2), LONG_REFUSAL + 2);
        due("likely(0, -1)", x.likely(0, -1), LONG_REFUSAL + 2);
        refused(x, 2, 2, 0, 0, 0);
    }

    private static void lit() {
        CHECK.about("Promise 15");
        TwoGoodOfEight x = drawerOf("n3;k020;k110;g2=;");
        int[] sets = {3, 5, 6};
        int[] above = {12, 28, 3};
        for (int i = 0; i < 3; i++) {
            due("lit(" + sets[i] + ", 0)", x.lit(sets[i], 0), above[i]);
            due("lit(" + sets[i] + ", 1)", x.lit(sets[i], 1), 43);
        }
        x.lamp(5, 2);
        due("a CHAIN of one", x.lit(1, 0), 40);
        due("a CHAIN of one", x.lit(1, 1), 43);
        due("a CHAIN of three", x.lit(7, 0), 0);
        due("a CHAIN of three", x.lit(7, 1), 1);
        x.lamp(1, 3);
        x.good(2, 1);
        due("a GLOW is LIT, if all are good", x.lit(7, 0), 12);
        due("a GLOW is LIT, if all are good", x.lit(7, 1), 55);
        told(x, "b9012;");
        due("none", x.lit(7, 0), 0);
        due("none", x.lit(7, 1), 1);
        due("lit(3, 2)", x.lit(3, 2), LONG_REFUSAL + 1);
        due("lit(8, 0)", x.lit(8, 0), LONG_REFUSAL + 1);
        due("lit(7, 2)", x.lit(7, 2), LONG_REFUSAL + 2);
        due("lit(7, -1)", x.lit(7, -1), LONG_REFUSAL + 2);
        refused(x, 2, 2, 0, 0, 0);
    }

    private static void leaves() {
        CHECK.about("Promise 16");
        TwoGoodOfEight x = new TwoGoodOfEight();
        int[] two = {55, 40, 55, 40, 40, 55};
        int[] three = {65, 30, 35, 35, 35, 65};
        for (int kind = 0; kind < 6; kind++) {
            x.lamp(kind, 2);
            due("KIND " + kind + " of two", x.leaves(0b1001), two[kind]);
            x.lamp(kind, 3);
            due("KIND " + kind + " of three", x.leaves(0b11001), three[kind]);
        }
        due("a CHAIN of one", x.leaves(128), 35);
        due("a CHAIN of eight", x.leaves(255), 70);
        told(x, "l02;k020;k120;b001;");
        due("numbers, no weights", x.leaves(0b101), 45);
        due("told already", x.leaves(0b11), 55);
        told(x, "b101;");
        due("none", x.leaves(3), 0);
        due("leaves(7)", x.leaves(7), -1);
        due("leaves(256)", x.leaves(256), -1);
        refused(x, 2, 0, 0, 0, 0);
    }

    private static void best() {
        CHECK.about("Promise 17");
        TwoGoodOfEight x = drawerOf("n4;g2=;k220;k320;");
        due("best(0)", x.best(0), 3);
        due("best(1)", x.best(1), 12);
        told(x, "b001;");
        due("best(0)", x.best(0), 5);
        due("best(1)", x.best(1), 12);
        told(x, "b023;");
        due("best(1), of several the least bits", x.best(1), 5);
        due("best(2)", x.best(2), -2);
        due("best(-1)", x.best(-1), -2);
        told(x, "b101;");
        due("each leaves 0 where MAY is none, best(0)", x.best(0), 3);
        due("none, best(1)", x.best(1), -9);
        refused(x, 0, 2, 0, 0, 0);
        due("there is none", drawerOf("n3;l04;").best(0), -9);
        due("there is none", drawerOf("n3;l04;").best(1), -9);
        due("there is none, and MAY is none", drawerOf("n3;g1+;l54;b10;b00;").best(0), -9);
        due("of three, MAY is none", drawerOf("l03;b1123;b0123;").best(0), 7);
        due("a CHAIN's, MAY is none", drawerOf("l54;b11;b01;").best(0), 15);
        due("a CHAIN's, of just NEEDS", drawerOf("n6;g3=;l53;").best(0), 7);
        due("LIT in none", drawerOf("n4;g1=;").best(1), 3);
        TwoGoodOfEight glow = drawerOf("n5;g2=;l12;b101;");
        due("a GLOW's SPLIT", glow.best(0), 5);
    }

    private static void row(TwoGoodOfEight x, int... sets) {
        due("worst(-1)", x.worst(-1), sets.length);
        for (int i = 0; i < sets.length; i++) {
            due("worst(" + i + ")", x.worst(i), sets[i]);
        }
        due("worst behind the last", x.worst(sets.length), -9);
        due("worst(greatest)", x.worst(Integer.MAX_VALUE), -9);
    }

    private static void worst() {
        CHECK.about("Promise 18");
        row(drawerOf("n4;g2=;"), 3, 5, 6, 9, 10, 12);
        row(drawerOf("n4;g2=;b001;"), 5, 6, 9, 10, 12);
        row(drawerOf("n4;g3=;"), 3, 12);
        row(drawerOf("n5;g3=;"), 3, 5, 6, 24);
        row(drawerOf("n6;g4=;"), 3, 12, 48);
        row(drawerOf("n6;g5+;l53;"), 7, 56);
        row(drawerOf("n2;g2=;"), 3);
        row(drawerOf("n6;g6=;l04;"), 15);
        row(drawerOf("n4;b101;b001;"));
        row(drawerOf("n4;l04;b00123;g4=;"));
        due("none in which one is LIT", drawerOf("n4;g1=;").worst(-1), -9);
        due("none in which one is LIT", drawerOf("n4;g1=;").worst(0), -9);
        due("one of MAY is never LIT", drawerOf("n4;g1+;").worst(-1), -9);
        due("there is none of NEEDS", drawerOf("n3;l04;").worst(-1), -9);
        TwoGoodOfEight x = drawerOf("n7;");
        due("worst(-2)", x.worst(-2), -4);
        due("worst(-1)", x.worst(-1), -3);
        due("worst(0)", x.worst(0), -3);
        told(x, "n6;");
        due("worst(-2)", x.worst(-2), -4);
        due("worst(-1)", x.worst(-1), 3);
        refused(x, 0, 0, 2, 2, 0);
    }

    private static void heaps() {
        CHECK.about("Promise 19");
        TwoGoodOfEight x = new TwoGoodOfEight();
        due("heaps(8, 4)", x.heaps(8, 4), 7);
        due("heaps(2, 2)", x.heaps(2, 2), 1);
        due("heaps(6, 3)", x.heaps(6, 3), 6);
        due("heaps(7, 3)", x.heaps(7, 3), 9);
        due("heaps(5, 5)", x.heaps(5, 5), 1);
        due("heaps(999, 2)", x.heaps(999, 2), 498501);
        due("heaps(999, 999)", x.heaps(999, 999), 1);
        due("heaps(1, 2)", x.heaps(1, 2), -4);
        due("heaps(2, 1)", x.heaps(2, 1), -4);
        due("heaps(1000, 1)", x.heaps(1000, 1), -4);
        due("heaps(1000, 2)", x.heaps(1000, 2), -6);
        due("heaps(5, 6)", x.heaps(5, 6), -6);
        due("heaps(least, least)", x.heaps(Integer.MIN_VALUE, Integer.MIN_VALUE), -4);
        refused(x, 0, 0, 0, 4, 2);
    }

    private static void orderIs(TwoGoodOfEight x, int... sets) {
        for (int i = 0; i < sets.length; i++) {
            due("order(" + i + ")", x.order(i), sets[i]);
        }
        due("order behind the last", x.order(sets.length), -9);
    }

    private static void order() {
        CHECK.about("Promise 20");
        orderIs(drawerOf("n3;g2=;"), 3, 5, 6);
        orderIs(drawerOf("n3;k020;k110;g2=;"), 5, 3, 6);
        orderIs(drawerOf("n4;g3=;"), 3, 12);
        orderIs(drawerOf("n4;g2=;b001;b002;"), 6, 9, 10, 12);
        orderIs(drawerOf("n2;g1+;"), 3);
        orderIs(drawerOf("n4;g1=;"));
        orderIs(drawerOf("n3;l04;"));
        orderIs(drawerOf("n4;b101;b001;"));
        TwoGoodOfEight x = drawerOf("l04;");
        due("order(0)", x.order(0), 15);
        due("order(19)", x.order(19), 83);
        due("order(20)", x.order(20), -9);
        due("order(greatest)", x.order(Integer.MAX_VALUE), -9);
        due("order(-1)", x.order(-1), -4);
        refused(x, 0, 0, 0, 1, 0);
    }

    private static void meanIs(String text, long above, long below) {
        TwoGoodOfEight x = drawerOf(text);
        due(text + " mean(0)", x.mean(0), above);
        due(text + " mean(1)", x.mean(1), below);
    }

    private static void mean() {
        CHECK.about("Promise 21");
        meanIs("n8;", 117, 35);
        meanIs("n3;g2=;", 2, 1);
        meanIs("n3;k020;k110;g2=;", 61, 43);
        meanIs("n2;g1+;", 1, 1);
        meanIs("n4;g1=;", 0, 1);
        meanIs("n4;b101;b001;", 0, 1);
        meanIs("l04;", 21, 2);
        TwoGoodOfEight x = new TwoGoodOfEight();
        due("mean(2)", x.mean(2), LONG_REFUSAL + 2);
        due("mean(-1)", x.mean(-1), LONG_REFUSAL + 2);
        refused(x, 0, 2, 0, 0, 0);
    }

    private static void triersMake(String text, int... tries) {
        TwoGoodOfEight x = drawerOf(text);
        for (int kind = 0; kind < tries.length; kind++) {
            due(text + " trier(" + kind + ")", x.trier(kind), tries[kind]);
        }
    }

    private static void trier() {
        CHECK.about("Promise 22");
        triersMake("n8;", 2, 2, 8, 9, 2, 8);
        triersMake("t67;", 28, 7, 7, 1, 7, 7);
        triersMake("t17;", 13, 17, 27, 6, -9, 27);
        triersMake("t01;", 1, 1, 1, 28, 1, 1);
        triersMake("g0=;t57;", 27, 27, 13, 2, 27, -9);
        triersMake("g2=;t07;", 7, 7, 28, 7, 7, 28);
        triersMake("t3;", -9, -9, -9, -9, -9, -9);
        triersMake("t;", -9, -9, -9, -9, -9, -9);
        triersMake("n5;g3=;t34;", 10, 4, 4, 1, 4, 4);
        triersMake("n2;t01;", 1, 1, 1, 1, 1, 1);
        triersMake("l04;t67;", 28, 7, 7, 1, 7, 7);
        TwoGoodOfEight x = new TwoGoodOfEight();
        due("trier(6)", x.trier(6), -2);
        due("trier(-1)", x.trier(-1), -2);
        due("nothing in the book", x.count(1), 0);
        refused(x, 0, 2, 0, 0, 0);
        x.put(0, 5);
        due("by PLACES", x.trier(0), 9);
        due("by PLACES, from the last on", x.trier(3), 2);
        x = drawerOf("t27;");
        due("three heaps", x.trier(1), 22);
        x.good(1, 0);
        due("one heap at least", x.trier(1), 18);
        x.good(0, 1);
        due("one heap at least", x.trier(4), 18);
    }

    private static void trierWrites() {
        CHECK.about("Promise 22, WRITE");
        triersMake("g7=;t46;", 24, 24, 12, 9, 6);
        triersMake("g7=;t47;", 25, 25, 18, 3, -9);
        triersMake("t07;", 7, 12, 28, 7, -9);
        triersMake("g3=;t06;", 6, 15, 26, 13, 15);
        triersMake("g3=;t07;", 7, 16, 28, 7, -9);
        triersMake("g3+;t06;", 6, 15, 26, 13, 15);
    }

    private static void trierKnows() {
        CHECK.about("Promise 22, KNOWER");
        due("without 0", drawerOf("l52;b00;").trier(5), 8);
        due("without 0", drawerOf("l52;b00;t24;").trier(5), 8);
        due("a SLIDE with 0", drawerOf("l52;b00;t24;").trier(2), 10);
        due("the good one is left out", drawerOf("l52;b00;t02;").trier(5), -9);
        due("of none, none is surely flat", drawerOf("l52;b00;b10;t02;").trier(5), 8);
        due("told by how many", drawerOf("n4;g2=;b101;t01;").trier(5), 1);
        due("told by how many", drawerOf("n4;g2=;b101;t23;").trier(5), -9);
    }

    private static void chain() {
        CHECK.about("Promise 23");
        TwoGoodOfEight x = new TwoGoodOfEight();
        int[][] of = {{1, 0, 0}, {2, 1, 2}, {3, 2, 5}, {4, 2, 8}, {5, 3, 12}, {6, 3, 16}, {7, 3, 20}, {8, 3, 24},
            {9, 4, 29}, {512, 9, 4608}, {513, 10, 4619}, {999, 10, 9965}};
        for (int[] row : of) {
            due("chain(" + row[0] + ", 0)", x.chain(row[0], 0), row[1]);
            due("chain(" + row[0] + ", 1)", x.chain(row[0], 1), row[2]);
        }
        due("chain(0, 2)", x.chain(0, 2), -4);
        due("chain(-5, 0)", x.chain(-5, 0), -4);
        due("chain(1000, 2)", x.chain(1000, 2), -6);
        due("chain(1, 2)", x.chain(1, 2), -2);
        due("chain(999, -1)", x.chain(999, -1), -2);
        refused(x, 0, 2, 0, 2, 1);
    }

    private static void tester() {
        CHECK.about("Promise 24");
        TwoGoodOfEight x = new TwoGoodOfEight();
        due("tester(9, 5, 9)", x.tester(9, 5, 9), 1);
        due("tester(6, 5, 5)", x.tester(6, 5, 5), 0);
        due("tester(6, 5, 6)", x.tester(6, 5, 6), 1);
        due("tester(6, 5, 7)", x.tester(6, 5, 7), 3);
        due("tester(8, 5, 9)", x.tester(8, 5, 9), 2);
        due("tester(6, 1, 8)", x.tester(6, 1, 8), 9);
        due("tester(6, 1, 9)", x.tester(6, 1, 9), -9);
        due("tester(9, 9, 1)", x.tester(9, 9, 1), 0);
        due("tester(9, 1, 9)", x.tester(9, 1, 9), 2);
        due("tester(5, 10, 1)", x.tester(5, 10, 1), -4);
        due("tester(10, 0, 1)", x.tester(10, 0, 1), -4);
        due("tester(6, 10, 0)", x.tester(6, 10, 0), -4);
        due("tester(10, 1, 1)", x.tester(10, 1, 1), -6);
        due("tester(6, 10, 1)", x.tester(6, 10, 1), -6);
        due("tester(6, 1, 10)", x.tester(6, 1, 10), -6);
        refused(x, 0, 0, 0, 3, 3);
    }

    private static void forgets() {
        CHECK.about("Promise 25");
        TwoGoodOfEight x = new TwoGoodOfEight();
        due("forgets(28, 0, 0)", x.forgets(28, 0, 0), 28);
        due("forgets(28, 0, 1)", x.forgets(28, 0, 1), 1);
        due("forgets(28, 1, 0)", x.forgets(28, 1, 0), 29);
        due("forgets(28, 1, 1)", x.forgets(28, 1, 1), 2);
        due("forgets(3, 1, 0)", x.forgets(3, 1, 0), 2);
        due("forgets(3, 1, 1)", x.forgets(3, 1, 1), 1);
        due("forgets(1, 0, 0)", x.forgets(1, 0, 0), 1);
        due("forgets(1, 1, 0)", x.forgets(1, 1, 0), 1);
        due("forgets(99, 1, 0)", x.forgets(99, 1, 0), 50);
        due("forgets(0, 2, 2)", x.forgets(0, 2, 2), LONG_REFUSAL + 4);
        due("forgets(100, 2, 2)", x.forgets(100, 2, 2), LONG_REFUSAL + 6);
        due("forgets(1, 2, 0)", x.forgets(1, 2, 0), LONG_REFUSAL + 2);
        due("forgets(1, -1, 0)", x.forgets(1, -1, 0), LONG_REFUSAL + 2);
        due("forgets(1, 0, 2)", x.forgets(1, 0, 2), LONG_REFUSAL + 2);
        due("forgets(1, 1, -1)", x.forgets(1, 1, -1), LONG_REFUSAL + 2);
        refused(x, 0, 4, 0, 1, 1);
    }

    private static void backIs(TwoGoodOfEight x, int kind, int... tries) {
        for (int rule = 0; rule < 6; rule++) {
            due("back(" + kind + ", " + rule + ")", x.back(kind, rule), tries[rule]);
        }
    }

    private static void back() {
        CHECK.about("Promise 26");
        TwoGoodOfEight x = new TwoGoodOfEight();
        long before = sum(x);
        backIs(x, 0, 2, 1, 1, 1, 1, 9);
        backIs(x, 3, 9, 20, 14, 20, 20, 2);
        due("nothing is put back", sum(x), before);
        backIs(drawerOf("t67;"), 0, 28, 1, 1, 1, 1, 1);
        backIs(drawerOf("n3;t;"), 0, -9, -9, -9, -9, -9, -9);
        TwoGoodOfEight written = drawerOf("t07;");
        backIs(written, 1, 12, 1, 1, 1, 1, 12);
        backIs(written, 4, -9, -9, -9, -9, -9, -9);
        backIs(drawerOf("g7=;t57;"), 4, -9, -9, -9, -9, -9, 3);
        due("back(6, 0)", x.back(6, 0), -2);
        due("back(-1, 0)", x.back(-1, 0), -2);
        due("back(0, 6)", x.back(0, 6), -2);
        due("back(0, -1)", x.back(0, -1), -2);
        refused(x, 0, 4, 0, 0, 0);
    }

    private static void bestRule() {
        CHECK.about("Promise 27");
        TwoGoodOfEight x = new TwoGoodOfEight();
        due("bestRule(0)", x.bestRule(0), 1);
        due("bestRule(3)", x.bestRule(3), 5);
        due("bestRule(6)", x.bestRule(6), -2);
        due("bestRule(-1)", x.bestRule(-1), -2);
        refused(x, 0, 2, 0, 0, 0);
        due("the first two are good", drawerOf("t01;").bestRule(0), 0);
        due("never LIT by any", drawerOf("t;").bestRule(1), 0);
        due("never LIT as they lie", drawerOf("g7=;t57;").bestRule(4), 5);
    }

    private static void placesAre(TwoGoodOfEight x, int... places) {
        for (int place = 0; place < places.length; place++) {
            due("place of " + places[place], x.battery(places[place], 4), place);
        }
    }

    private static void put() {
        CHECK.about("Promise 28");
        TwoGoodOfEight x = new TwoGoodOfEight();
        due("put(0, 0)", x.put(0, 0), 2);
        placesAre(x, 0, 1, 2, 3, 4, 5, 6, 7);
        due("put(0, 1)", x.put(0, 1), 2);
        placesAre(x, 0, 2, 1, 3, 4, 5, 6, 7);
        due("put(0, 5)", x.put(0, 5), 1);
        placesAre(x, 7, 6, 5, 4, 3, 1, 2, 0);
        due("put(0, 2)", x.put(0, 2), 9);
        placesAre(x, 6, 4, 3, 1, 2, 0, 7, 5);
        x = new TwoGoodOfEight();
        due("put(3, 3)", x.put(3, 3), 9);
        placesAre(x, 4, 6, 0, 1, 2, 3, 5, 7);
        x = drawerOf("t25;");
        due("put(0, 4)", x.put(0, 4), 16);
        placesAre(x, 2, 5, 0, 1, 3, 4, 6, 7);
        x = drawerOf("t25;");
        due("put(0, 3)", x.put(0, 3), 16);
        placesAre(x, 2, 5, 6, 7, 0, 1, 3, 4);
        x = drawerOf("n4;t1;");
        due("never LIT, put(0, 4)", x.put(0, 4), -9);
        placesAre(x, 2, 3, 0, 1);
        due("never LIT, put(0, 5)", x.put(0, 5), -9);
        placesAre(x, 1, 0, 3, 2);
        due("never LIT, put(0, 3)", x.put(0, 3), -9);
        placesAre(x, 1, 0, 3, 2);
        x = drawerOf("n2;l52;b00;t1;");
        due("no TRY at all, put(5, 4)", x.put(5, 4), -9);
        placesAre(x, 0, 1);
        due("put(6, 0)", x.put(6, 0), -2);
        due("put(-1, 0)", x.put(-1, 0), -2);
        due("put(0, 6)", x.put(0, 6), -2);
        due("put(0, -1)", x.put(0, -1), -2);
        placesAre(x, 0, 1);
        refused(x, 0, 4, 0, 0, 0);
    }

    private static void suspect() {
        CHECK.about("Promise 29");
        TwoGoodOfEight x = new TwoGoodOfEight();
        due("an empty book", x.suspect(), 0);
        x.tries(3);
        due("it is so already", x.suspect(), 0);
        x.truly(3);
        due("either of two", x.suspect(), 3);
        told(x, "b002;b102;");
        due("none can be", x.suspect(), 0);
        x.strike();
        due("either of two", x.suspect(), 3);
        told(x, "b112;");
        due("none alone", x.suspect(), 0);
        TwoGoodOfEight y = drawerOf("n3;t;l12;b101;b102;");
        due("in both", y.suspect(), 1);
        y.truly(7);
        due("the other way: flat", y.suspect(), 1);
        TwoGoodOfEight odd = drawerOf("n4;t;l33;b1012;");
        due("one of three", odd.suspect(), 7);
    }

    private static void row() {
        CHECK.about("Promise 30");
        TwoGoodOfEight x = new TwoGoodOfEight();
        due("row(-1)", x.row(-1), -4);
        due("row(256)", x.row(256), -6);
        due("count(8)", x.count(8), 0);
        for (int i = 1; i <= 10; i++) {
            due("row", x.row(i % 2 == 0 ? 0 : 255), i);
        }
        due("row(0), no room", x.row(0), -6);
        due("row(-1), no room", x.row(-1), -4);
        due("count(8)", x.count(8), 10);
        refused(x, 0, 0, 0, 2, 2);
    }

    private static void judged(TwoGoodOfEight x, int answer, int... numbers) {
        for (int v : numbers) {
            x.row(v);
        }
        due("judge()", x.judge(), answer);
        due("the row has none then", x.count(8), 0);
    }

    private static void judge() {
        CHECK.about("Promise 31");
        TwoGoodOfEight x = new TwoGoodOfEight();
        judged(x, -9);
        judged(x, -9, 3, 0, 5, 1);
        judged(x, -9, 3, 0, 5, 1, 6, 0, 80, 1, 17, 1);
        judged(x, 1, 3, 1, 5, 0);
        judged(x, 3, 3, 0, 5, 0);
        judged(x, 3, 3, 0, 5, 255);
        judged(x, 0, 7, 0, 5, 1);
        judged(x, 2, 3, 0, 0, 1);
        judged(x, 0, 3);
        judged(x, 0, 7);
        judged(x, 2, 3, 0, 5);
        judged(x, 1, 3, 1, 5);
        judged(x, 0, 7, 1, 5);
        x.lamp(1, 3);
        judged(x, -9, 7, 2, 0b1010100, 3, 0b11010, 1);
        judged(x, 3, 7, 2, 0b1010100, 1);
        told(x, "n4;l52;");
        judged(x, -9, 15, 0, 1, 1);
        judged(x, 2, 15, 0, 16, 0);
        refused(x, 0, 0, 0, 0, 0);
    }

    private static void seeds() {
        CHECK.about("Promise 32");
        TwoGoodOfEight x = new TwoGoodOfEight();
        long before = sum(x);
        due("seeds(0, 1, 1, 0)", x.seeds(0, 1, 1, 0), 15);
        due("seeds(0, 1, 1, 1)", x.seeds(0, 1, 1, 1), 1);
        due("seeds(0, 2, 1, 0)", x.seeds(0, 2, 1, 0), 19);
        due("seeds(0, 2, 1, 1)", x.seeds(0, 2, 1, 1), 2);
        due("seeds(3, 2, 1, 0)", x.seeds(3, 2, 1, 0), 11);
        due("nothing changed", sum(x), before);
        due("none is TRULY good", x.truly(0), 85);
        due("seeds(0, 1, 1, 0)", x.seeds(0, 1, 1, 0), 15);
        told(x, "n2;k120;");
        due("never LIT: none counted", x.seeds(0, 1, 1, 0), 0);
        due("never LIT", x.seeds(0, 1, 1, 1), 0);
        due("pairs of draws, by TENTHS", x.seeds(0, 8, 1, 1), 4);
        due("seeds(-1, 0, 0, 2)", x.seeds(-1, 0, 0, 2), -2);
        due("seeds(6, 0, 0, 2)", x.seeds(6, 0, 0, 2), -2);
        due("seeds(0, 0, 0, 2)", x.seeds(0, 0, 0, 2), -4);
        due("seeds(0, 21, 0, 2)", x.seeds(0, 21, 0, 2), -6);
        due("seeds(0, 1, 0, 2)", x.seeds(0, 1, 0, 2), -2);
        due("seeds(0, 20, 0, -1)", x.seeds(0, 20, 0, -1), -2);
        refused(x, 0, 4, 0, 1, 1);
    }

    private static void image() {
        CHECK.about("Promise 33");
        TwoGoodOfEight x = new TwoGoodOfEight();
        due("image()", x.image(), 0);
        x.tries(3);
        x.tries(5);
        due("image()", x.image(), 2);
        x.strike();
        due("the later one is kept", x.restore(), 2);
    }

    private static void restore() {
        CHECK.about("Promise 34");
        TwoGoodOfEight x = new TwoGoodOfEight();
        due("restore()", x.restore(), -3);
        told(x, "n6;k057;k112;t25;g2+;l13;b1012;b2345;");
        x.put(0, 1);
        long before = sum(x);
        x.image();
        told(x, "n5;g1=;l02;b034;");
        x.put(0, 5);
        x.truly(0);
        x.feed('x');
        x.row(3);
        x.may(9);
        due("restore()", x.restore(), 2);
        due("letters stay", x.count(7), 1);
        due("the ROW stays", x.count(8), 1);
        refused(x, 0, 1, 1, 0, 0);
        x.drawer();
        x.judge();
        due("as it was", sum(x), before);
        x.strike();
        x.kind(0, 0, 0);
        due("once more", x.restore(), 2);
        due("as it was", sum(x), before);
        due("not the image", x.strike(), 1);
        due("another object has none", new TwoGoodOfEight().restore(), -3);
    }

    private static void count() {
        CHECK.about("Promise 35");
        TwoGoodOfEight x = drawerOf("n7;t0124;g3+;l23;b0012;");
        x.feed('n');
        x.feed('7');
        x.row(7);
        x.row(1);
        x.row(1);
        x.book(9);
        x.may(9);
        x.may(9);
        x.restore();
        x.restore();
        x.restore();
        for (int i = 0; i < 4; i++) {
            x.order(-1);
        }
        for (int i = 0; i < 5; i++) {
            x.heaps(1000, 2);
        }
        int[] counts = {7, 1, 4, 3, 1, 2, 3, 2, 3, 38, -9, 1, 2, 3, 4, 0, 5, -9};
        for (int what = 0; what < counts.length; what++) {
            due("count(" + what + ")", x.count(what), counts[what]);
        }
        due("count(-1)", x.count(-1), -9);
        due("count(least)", x.count(Integer.MIN_VALUE), -9);
        due("count(greatest)", x.count(Integer.MAX_VALUE), -9);
        refused(x, 1, 2, 3, 4, 5);
    }
}
