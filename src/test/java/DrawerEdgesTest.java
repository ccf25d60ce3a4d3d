/** What is least, greatest, empty and full in promises 1 to 12 and 33 to 35; each sentence of the document for itself. */
public final class DrawerEdgesTest {
    private static final int LEAST = Probe.LEAST;
    private static final int GREATEST = Probe.GREATEST;
    private static final Check CHECK = new Check();

    public static void main(String[] args) {
        newObject();
        lettersAndTheirRoom();
        drawerOfStatements();
        statementOfHowMany();
        statementOfKind();
        statementOfTrulyGood();
        statementOfG();
        statementOfLamp();
        statementOfTry();
        faultOfFirstKind();
        faultOfSecondKind();
        allOfItOrNothing();
        whatIsNotToldStays();
        battery();
        kind();
        truly();
        good();
        lamp();
        would();
        tries();
        book();
        strike();
        imageAndRestore();
        count();
        lastCall();
        CHECK.close();
    }

    private static void says(String sentence) {
        CHECK.about(sentence);
    }

    private static void due(String call, long got, long want) {
        CHECK.due(call, got, want);
    }

    private static TwoGoodOfEight drawerOf(String text) {
        return Probe.drawerOf(text);
    }

    // ---- Promise 1

    private static void newObject() {
        TwoGoodOfEight x = new TwoGoodOfEight();
        says("Promise 1: eight BATTERIES");
        due("count(0)", x.count(0), 8);
        due("the last of them", x.battery(7, 2), 5);
        says("Promise 1: four of them good");
        due("count(2)", x.count(2), 4);
        due("g", x.count(3), 4);
        says("Terms: HOW MANY, at first just");
        due("count(4)", x.count(4), 0);
        says("Terms: TRULY good, the even ones at first");
        due("truly(85)", x.truly(0b01010101), 0b01010101);
        says("Terms: battery k on PLACE k, KINDS 0, FIGURE 0 at first");
        for (int b = 0; b < 8; b++) {
            due("PLACE of " + b, x.battery(b, 4), b);
            due("KIND of " + b, x.battery(b, 0), 0);
            due("FIGURE of " + b, x.battery(b, 1), 0);
        }
        says("Terms: LAMP of KIND 0, NEEDS 2 at first");
        due("lamp(0, 2)", x.lamp(0, 2), 2);
        says("Terms: THE BOOK, none at first");
        due("count(1)", x.count(1), 0);
        due("strike()", new TwoGoodOfEight().strike(), -3);
        says("Promise 1: no letters, no ROW, no IMAGE");
        due("count(7)", x.count(7), 0);
        due("drawer()", x.drawer(), -1000);
        due("count(8)", x.count(8), 0);
        due("judge()", x.judge(), -9);
        due("restore()", x.restore(), -3);
        says("Promise 1: no REFUSALS");
        for (int count : Probe.refusals(new TwoGoodOfEight())) {
            due("refusals", count, 0);
        }
    }

    // ---- Promise 2

    private static void lettersAndTheirRoom() {
        says("Promise 2: the least letter is 0");
        TwoGoodOfEight x = new TwoGoodOfEight();
        due("feed(0)", x.feed(0), 1);
        says("Promise 2: the greatest letter is 255");
        due("feed(255)", x.feed(255), 2);
        says("Promise 2: 96 letters, how many there are");
        for (int i = 3; i <= 96; i++) {
            due("feed", x.feed('n'), i);
        }
        due("count(7)", x.count(7), 96);
        says("Promise 2: room again behind a FAULT");
        due("drawer()", x.drawer(), -1000);
        due("feed", x.feed('t'), 1);
        says("Promise 2: room again behind a DRAWER");
        due("feed", x.feed(';'), 2);
        due("drawer()", x.drawer(), 1);
        for (int i = 1; i <= 96; i++) {
            due("feed", x.feed(';'), i);
        }
        due("feed, 97th", x.feed(';'), -6);
    }

    // ---- Promise 3

    private static void drawerOfStatements() {
        says("Promise 3: no letters, at least one STATEMENT");
        TwoGoodOfEight x = new TwoGoodOfEight();
        due("drawer()", x.drawer(), -1000);
        due("drawer()", x.drawer(), -1000);
        says("Promise 3: one STATEMENT");
        due("t;", Probe.told(x, "t;"), 1);
        due("TRULY good", x.count(2), 0);
        says("Promise 3: as many STATEMENTS as there is room for");
        due("48 times t;", Probe.told(x, "t;".repeat(48)), 48);
        says("Promise 3: 96 letters, the last ones too");
        due("k05; last", Probe.told(x, "t;".repeat(46) + "k05;"), -1095);
        due("g1+; last", Probe.told(x, "t;".repeat(46) + "g1+;"), 47);
        due("g", x.count(3), 1);
        due("at least", x.count(4), 1);
        says("Promise 3: the letters are no more then");
        due("count(7)", x.count(7), 0);
        due("drawer()", x.drawer(), -1000);
        says("Promise 3: with a FAULT of kind 1 neither");
        Probe.told(x, "n6;n");
        due("count(7)", x.count(7), 0);
        due("t;", Probe.told(x, "t;"), 1);
        says("Promise 3: with a FAULT of kind 2 neither");
        Probe.told(x, "n6;n9;");
        due("count(7)", x.count(7), 0);
        due("t;", Probe.told(x, "t;"), 1);
    }

    private static void statementOfHowMany() {
        says("Promise 3: n, 2 .. 8");
        for (int n = 2; n <= 8; n++) {
            TwoGoodOfEight x = new TwoGoodOfEight();
            due("n" + n + ";", Probe.told(x, "n" + n + ";"), 1);
            due("count(0)", x.count(0), n);
            due("the last one", x.battery(n - 1, 4), n - 1);
            due("one beyond", x.battery(n, 4), -1);
            due("the even ones", x.truly(0), 0b01010101 & (1 << n) - 1);
        }
        for (int n : new int[] {0, 1, 9}) {
            due("n" + n + ";", Probe.told(new TwoGoodOfEight(), "n" + n + ";"), -2000);
        }
        says("Promise 3: n, all as at first");
        TwoGoodOfEight x = drawerOf("k059;k753;t1357;b101;");
        x.put(0, 5);
        due("n8;", Probe.told(x, "n8;"), 1);
        for (int b = 0; b < 8; b++) {
            due("KIND of " + b, x.battery(b, 0), 0);
            due("FIGURE of " + b, x.battery(b, 1), 0);
            due("TRULY good " + b, x.battery(b, 3), 1 - b % 2);
            due("PLACE of " + b, x.battery(b, 4), b);
        }
        says("Promise 3: n, THE BOOK empty");
        due("count(1)", x.count(1), 0);
        says("Promise 3: n, the LAMP stays");
        x = drawerOf("l44;n2;");
        due("lamp", x.lamp(0, 2), 44);
        says("Promise 3: n, g as it was, but no more than that");
        due("g 0, n2", drawerOf("g0=;n2;").count(3), 0);
        due("g 1, n2", drawerOf("g1=;n2;").count(3), 1);
        due("g 2, n2", drawerOf("g2=;n2;").count(3), 2);
        due("g 3, n2", drawerOf("g3=;n2;").count(3), 2);
        due("g 8, n2", drawerOf("g8=;n2;").count(3), 2);
        due("g 8, n7", drawerOf("g8=;n7;").count(3), 7);
        due("g 8, n8", drawerOf("g8=;n8;").count(3), 8);
        due("g 8, n2, n8", drawerOf("g8=;n2;n8;").count(3), 2);
        due("at least 3, n2", drawerOf("g3+;n2;").good(0, 0), 5);
    }

    private static void statementOfKind() {
        says("Promise 3: k, BATTERY of eight");
        due("k000;", drawerOf("k059;k000;").battery(0, 2), 5);
        due("k759;", drawerOf("k759;").battery(7, 2), 6);
        due("k800;", Probe.told(new TwoGoodOfEight(), "k800;"), -2000);
        due("k900;", Probe.told(new TwoGoodOfEight(), "k900;"), -2000);
        says("Promise 3: k, BATTERY of two");
        due("n2;k110;", drawerOf("n2;k110;").battery(1, 2), 3);
        due("n2;k210;", Probe.told(new TwoGoodOfEight(), "n2;k210;"), -2003);
        says("Promise 3: k, KIND 0 .. 5, FIGURE 0 .. 9");
        for (int kind = 0; kind <= 5; kind++) {
            for (int figure = 0; figure <= 9; figure++) {
                TwoGoodOfEight x = new TwoGoodOfEight();
                due("k3" + kind + figure, Probe.told(x, "k3" + kind + figure + ";"), 1);
                due("KIND, FIGURE", x.kind(3, 0, 0), 10 * kind + figure);
            }
        }
        for (int kind = 6; kind <= 9; kind++) {
            due("k3" + kind + "0;", Probe.told(new TwoGoodOfEight(), "k3" + kind + "0;"), -2000);
        }
        says("Promise 3: k, THE BOOK stays");
        due("count(1)", drawerOf("b101;k059;").count(1), 1);
    }

    private static void statementOfTrulyGood() {
        says("Promise 3: t, 0 .. 8 digits");
        due("none", drawerOf("t;").count(2), 0);
        due("one", drawerOf("t7;").truly(0), 128);
        due("eight", drawerOf("t01234567;").count(2), 8);
        due("nine", Probe.told(new TwoGoodOfEight(), "t012345670;"), -1009);
        says("Promise 3: t, each may come again");
        due("eight times 0", drawerOf("t00000000;").truly(0), 1);
        due("two twice", drawerOf("t7007;").truly(0), 129);
        due("nine times 0", Probe.told(new TwoGoodOfEight(), "t000000000;"), -1009);
        says("Promise 3: t, no such BATTERY");
        due("8", Probe.told(new TwoGoodOfEight(), "t8;"), -2000);
        due("9", Probe.told(new TwoGoodOfEight(), "t9;"), -2000);
        due("8 behind seven", Probe.told(new TwoGoodOfEight(), "t01234568;"), -2000);
        due("1 of two", drawerOf("n2;t11;").truly(0), 2);
        due("2 of two", Probe.told(new TwoGoodOfEight(), "n2;t12;"), -2003);
        says("Promise 3: t, THE BOOK stays");
        due("count(1)", drawerOf("b101;t;").count(1), 1);
    }

    private static void statementOfG() {
        says("Promise 3: g, 0 .. how many there are");
        due("g0=;", drawerOf("g0=;").good(0, 0), 0);
        due("g8=;", drawerOf("g8=;").good(0, 0), 16);
        due("g9=;", Probe.told(new TwoGoodOfEight(), "g9=;"), -2000);
        due("g9+;", Probe.told(new TwoGoodOfEight(), "g9+;"), -2000);
        due("n2;g0+;", drawerOf("n2;g0+;").good(0, 0), 1);
        due("n2;g2=;", drawerOf("n2;g2=;").good(0, 0), 4);
        due("n2;g3=;", Probe.told(new TwoGoodOfEight(), "n2;g3=;"), -2003);
        due("n2;g3+;", Probe.told(new TwoGoodOfEight(), "n2;g3+;"), -2003);
        says("Promise 3: g, just or at least");
        due("g8+;", drawerOf("g8+;").good(0, 0), 17);
        due("g4+;g4=;", drawerOf("g4+;g4=;").good(0, 0), 8);
        says("Promise 3: g, THE BOOK stays");
        due("count(1)", drawerOf("b101;g4+;").count(1), 1);
    }

    private static void statementOfLamp() {
        says("Promise 3: l, KIND 0 .. 5, NEEDS 2 .. 4");
        for (int kind = 0; kind <= 9; kind++) {
            for (int needs = 0; needs <= 9; needs++) {
                TwoGoodOfEight x = drawerOf("l33;");
                boolean taken = kind <= 5 && needs >= 2 && needs <= 4;
                due("l" + kind + needs, Probe.told(x, "l" + kind + needs + ";"), taken ? 1 : -2000);
                due("the LAMP", x.lamp(0, 2), taken ? 10 * kind + needs : 33);
            }
        }
        says("Promise 3: l, THE BOOK is empty then");
        due("another", drawerOf("b101;b102;l12;").count(1), 0);
        due("the same", drawerOf("b101;b102;l02;").count(1), 0);
    }

    private static void statementOfTry() {
        says("Promise 3: b, what was told is a digit");
        for (int told = 0; told <= 9; told++) {
            due("b" + told + "01;", drawerOf("b" + told + "01;").book(0), 30 + told);
        }
        says("Promise 3: b, 1 .. 8 BATTERIES");
        due("none", Probe.told(new TwoGoodOfEight(), "l52;b1;"), -1006);
        due("one", drawerOf("l52;b17;").book(0), 1281);
        due("eight", drawerOf("l52;b101234567;").book(0), 2551);
        due("eight, turned round", drawerOf("l52;b176543210;").book(0), 2551);
        due("nine", Probe.told(new TwoGoodOfEight(), "l52;b1012345678;"), -1014);
        says("Promise 3: b, none twice");
        due("00", Probe.told(new TwoGoodOfEight(), "b000;"), -2000);
        due("010", Probe.told(new TwoGoodOfEight(), "b0010;"), -2000);
        due("a CHAIN, 00", Probe.told(new TwoGoodOfEight(), "l52;b000;"), -2004);
        due("a CHAIN, 01234560", Probe.told(new TwoGoodOfEight(), "l52;b001234560;"), -2004);
        says("Promise 3: b, no such BATTERY");
        due("8", Probe.told(new TwoGoodOfEight(), "b008;"), -2000);
        due("9", Probe.told(new TwoGoodOfEight(), "b009;"), -2000);
        due("a CHAIN, 8", Probe.told(new TwoGoodOfEight(), "l52;b08;"), -2004);
        due("of two", Probe.told(new TwoGoodOfEight(), "n2;b002;"), -2003);
        due("two of two", drawerOf("n2;b001;").book(0), 30);
        says("Promise 3: b, no TRY");
        due("one of two", Probe.told(new TwoGoodOfEight(), "b00;"), -2000);
        due("three of two", Probe.told(new TwoGoodOfEight(), "b0012;"), -2000);
        due("three of four", Probe.told(new TwoGoodOfEight(), "l04;b0012;"), -2004);
        due("five of four", Probe.told(new TwoGoodOfEight(), "l04;b001234;"), -2004);
        due("four of four", drawerOf("l04;b04567;").book(0), 2400);
        says("Promise 3: b, no room");
        due("ten", drawerOf("b001;".repeat(10)).count(1), 10);
        due("eleven", Probe.told(new TwoGoodOfEight(), "b001;".repeat(11)), -2050);
        TwoGoodOfEight x = drawerOf("b001;".repeat(10));
        due("one more", Probe.told(x, "b001;"), -2000);
        due("behind l", Probe.told(x, "l02;b001;"), 2);
        x = drawerOf("b001;".repeat(10));
        due("behind n", Probe.told(x, "n8;b001;"), 2);
    }

    private static void misspelt(String text, int place) {
        due(text, Probe.told(new TwoGoodOfEight(), text), -1000 - place);
    }

    private static void misspeltFrom(String ahead, int letter) {
        TwoGoodOfEight x = new TwoGoodOfEight();
        Probe.feed(x, ahead);
        x.feed(letter);
        x.feed(';');
        due(ahead + " and letter " + letter, x.drawer(), -1000 - ahead.length());
    }

    private static void faultOfFirstKind() {
        says("Promise 3: kind 1, with which no STATEMENT begins");
        for (int letter = 0; letter <= 255; letter++) {
            if ("nktglb".indexOf(letter) < 0) {
                misspeltFrom("", letter);
            }
        }
        misspeltFrom("n8;", 0);
        misspeltFrom("n8;", 255);
        misspeltFrom("n8;", ';');
        says("Promise 3: kind 1, no digit");
        for (String ahead : new String[] {"n", "k", "k0", "k00", "g", "l", "l0", "b", "b0"}) {
            misspeltFrom(ahead, '/');
            misspeltFrom(ahead, ':');
            misspeltFrom(ahead, 0);
            misspeltFrom(ahead, 255);
            misspeltFrom(ahead, ';');
        }
        says("Promise 3: kind 1, no digit and no ;");
        for (String ahead : new String[] {"t", "t0", "t0123456", "b00", "b00123456"}) {
            misspeltFrom(ahead, '/');
            misspeltFrom(ahead, ':');
            misspeltFrom(ahead, 't');
        }
        says("Promise 3: kind 1, no ;");
        for (String ahead : new String[] {"n8", "k000", "t01234567", "g4=", "g4+", "l02", "b001234567"}) {
            misspeltFrom(ahead, ':');
            misspeltFrom(ahead, '<');
            misspeltFrom(ahead, '0');
        }
        says("Promise 3: kind 1, neither = nor +");
        for (int letter : new int[] {'<', '>', '*', ',', ';', '4', 0, 255}) {
            misspeltFrom("g4", letter);
        }
        says("Promise 3: kind 1, the end, if something lacks");
        for (String text : new String[] {"", "n", "n8", "k", "k0", "k00", "k000", "t", "t0", "t01234567", "g", "g4", "g4=",
            "g4+", "l", "l0", "l02", "b", "b0", "b00", "b001234567", "n8;n"}) {
            misspelt(text, text.length());
        }
        misspelt("t;".repeat(47) + "t", 95);
        misspelt("t;".repeat(47) + "t0", 96);
        says("Promise 3: kind 1 ahead of kind 2");
        misspelt("n9;x", 3);
        misspelt("n9;t", 4);
        misspelt("n0;k800;t9;g9=;l99;b000;;", 24);
    }

    private static void notAsItMustBe(String text, int place) {
        due(text, Probe.told(new TwoGoodOfEight(), text), -2000 - place);
    }

    private static void faultOfSecondKind() {
        says("Promise 3: kind 2, the first letter of the first STATEMENT");
        notAsItMustBe("n9;", 0);
        notAsItMustBe("n9;n9;", 0);
        notAsItMustBe("t;n9;", 2);
        notAsItMustBe("t01234567;n9;t;n9;", 10);
        notAsItMustBe("t;".repeat(46) + "g9=;", 92);
        says("Promise 3: kind 2, behind all ahead of it in the text");
        notAsItMustBe("n7;k700;", 3);
        notAsItMustBe("n7;n8;k700;n2;k700;", 14);
        notAsItMustBe("g8=;n7;g8=;", 7);
        notAsItMustBe("l03;b0012;l02;b0012;", 14);
        notAsItMustBe("n2;t3;", 3);
        due("n8 ahead of it", Probe.told(drawerOf("n2;"), "n8;k700;t7;g8=;b067;"), 5);
        due("behind n2", Probe.told(drawerOf("n2;"), "k700;"), -2000);
    }

    private static void nothing(String sentence, String text, int answer) {
        says(sentence);
        TwoGoodOfEight x = Probe.inUse();
        x.drawer();
        TwoGoodOfEight twin = Probe.inUse();
        twin.drawer();
        due(text, Probe.told(x, text), answer);
        CHECK.holds("nothing changes", Probe.spent(x).equals(Probe.spent(twin)));
        for (int count : Probe.refusals(twin)) {
            due("nothing is counted", count, 0);
        }
    }

    private static void allOfItOrNothing() {
        nothing("Promise 3: with FAULT of kind 1 nothing comes", "n4;k059;t3;g1=;l42;b123;x", -1024);
        nothing("Promise 3: with FAULT of kind 1 nothing comes", "n4;k059;t3;g1=;l42;b123;t", -1025);
        nothing("Promise 3: with FAULT of kind 2 nothing comes", "n4;k059;t3;g1=;l42;b123;k400;", -2024);
        nothing("Promise 3: no letters, nothing comes", "", -1000);
        says("Promise 3: without FAULT all of it comes");
        TwoGoodOfEight x = Probe.inUse();
        x.drawer();
        due("drawer", Probe.told(x, "n4;k059;t3;g1=;l42;b123;"), 6);
        due("n", x.count(0), 4);
        due("k", x.battery(0, 2), 6);
        due("t", x.truly(8), 8);
        due("g", x.good(1, 0), 2);
        due("b", x.book(0), 121);
        due("l", x.lamp(4, 2), 42);
        says("Promise 3: ROW and IMAGE stay");
        due("ROW", x.count(8), 4);
        due("IMAGE", x.restore(), 2);
    }

    /** Changed by calls, not by letters, between one text and the next. */
    private static void changeByCalls(TwoGoodOfEight x) {
        x.kind(7, 5, 9);
        x.kind(0, 4, 1);
        x.truly(0b11100000);
        x.good(7, 1);
        x.lamp(1, 3);
        x.tries(0b11100000);
        x.tries(0b111);
        x.put(0, 5);
    }

    private static void whatIsNotToldStays() {
        says("Promise 3: what no STATEMENT tells stays as it is");
        TwoGoodOfEight x = drawerOf("n5;k051;t1;g2=;l23;b1012;n8;");
        changeByCalls(x);
        due("k312;", Probe.told(x, "k312;"), 1);
        TwoGoodOfEight twin = drawerOf("n8;");
        changeByCalls(twin);
        twin.kind(3, 1, 2);
        CHECK.holds("all else", Probe.seen(x).equals(Probe.seen(twin)));
        says("Promise 3: of a text with FAULT nothing comes later");
        due("kind 2", Probe.told(x, "k759;t;g0=;l42;b301;n1;"), -2020);
        due("kind 1", Probe.told(x, "k759;t;g0=;l42;b301;n"), -1021);
        due("k000;", Probe.told(x, "k000;"), 1);
        twin.kind(0, 0, 0);
        CHECK.holds("all else", Probe.seen(x).equals(Probe.seen(twin)));
    }

    // ---- Promises 4 to 8

    private static void tenths(int kind, int... tenths) {
        TwoGoodOfEight x = new TwoGoodOfEight();
        for (int figure = 0; figure <= 9; figure++) {
            x.kind(7, kind, figure);
            due("KIND " + kind + ", FIGURE " + figure, x.battery(7, 2), tenths[figure]);
        }
    }

    private static void battery() {
        says("Promise 4: TENTHS of a BATTERY, whatever FIGURE");
        tenths(0, 5, 5, 5, 5, 5, 5, 5, 5, 5, 5);
        says("Promise 4: TENTHS of an OLD one, whatever FIGURE");
        tenths(1, 3, 3, 3, 3, 3, 3, 3, 3, 3, 3);
        says("Promise 4: TENTHS of a FRESH one, whatever FIGURE");
        tenths(2, 8, 8, 8, 8, 8, 8, 8, 8, 8, 8);
        says("Promise 4: TENTHS of a RUSTY one, whatever FIGURE");
        tenths(3, 1, 1, 1, 1, 1, 1, 1, 1, 1, 1);
        says("Promise 4: TENTHS of a PACKED one, 1 more if FIGURE is odd");
        tenths(4, 8, 9, 8, 9, 8, 9, 8, 9, 8, 9);
        says("Promise 4: TENTHS of a ROLLED one, a third of FIGURE, cut");
        tenths(5, 3, 3, 3, 4, 4, 4, 5, 5, 5, 6);
        says("Promise 4: the first and the last of eight and of two");
        for (int n : new int[] {8, 2}) {
            TwoGoodOfEight x = drawerOf("n" + n + ";");
            x.kind(n - 1, 5, 9);
            x.truly(1 << n - 1);
            x.put(0, 5);
            int[] first = {0, 0, 5, 0, n - 1};
            int[] last = {5, 9, 6, 1, 0};
            for (int what = 0; what <= 4; what++) {
                due("battery(0, " + what + ")", x.battery(0, what), first[what]);
                due("battery(" + (n - 1) + ", " + what + ")", x.battery(n - 1, what), last[what]);
            }
        }
    }

    private static void kind() {
        says("Promise 5: the least and the greatest of all");
        TwoGoodOfEight x = new TwoGoodOfEight();
        due("kind(0, 5, 9)", x.kind(0, 5, 9), 0);
        due("kind(0, 0, 0)", x.kind(0, 0, 0), 59);
        due("kind(7, 5, 0)", x.kind(7, 5, 0), 0);
        due("kind(7, 0, 9)", x.kind(7, 0, 9), 50);
        due("kind(7, 0, 0)", x.kind(7, 0, 0), 9);
        says("Promise 5: of that BATTERY alone");
        x.kind(3, 4, 7);
        for (int b = 0; b < 8; b++) {
            due("KIND of " + b, x.battery(b, 0), b == 3 ? 4 : 0);
            due("FIGURE of " + b, x.battery(b, 1), b == 3 ? 7 : 0);
        }
        says("Promise 5: the last of two");
        x = drawerOf("n2;b101;");
        due("kind(1, 2, 0)", x.kind(1, 2, 0), 0);
        due("THE BOOK stays", x.count(1), 1);
    }

    private static void truly() {
        says("Promise 6: none, all, which were");
        TwoGoodOfEight x = new TwoGoodOfEight();
        due("truly(0)", x.truly(0), 85);
        due("truly(255)", x.truly(255), 0);
        due("truly(128)", x.truly(128), 255);
        due("truly(1)", x.truly(1), 128);
        due("truly(1)", x.truly(1), 1);
        says("Promise 6: all of two");
        x = drawerOf("n2;");
        due("truly(3)", x.truly(3), 1);
        due("truly(2)", x.truly(2), 3);
        says("Promise 6: what was told stays as it was told");
        x = drawerOf("b101;");
        x.truly(0);
        due("book(0)", x.book(0), 31);
    }

    private static void good() {
        says("Promise 7: the least and the greatest g, just and at least");
        TwoGoodOfEight x = new TwoGoodOfEight();
        due("good(0, 0)", x.good(0, 0), 8);
        due("good(0, 1)", x.good(0, 1), 0);
        due("good(8, 0)", x.good(8, 0), 1);
        due("good(8, 1)", x.good(8, 1), 16);
        due("good(4, 0)", x.good(4, 0), 17);
        says("Promise 7: all of two");
        x = drawerOf("n2;b101;");
        due("good(2, 1)", x.good(2, 1), 4);
        due("good(0, 0)", x.good(0, 0), 5);
        due("THE BOOK stays", x.count(1), 1);
    }

    private static void lamp() {
        says("Promise 8: the least and the greatest KIND and NEEDS");
        TwoGoodOfEight x = new TwoGoodOfEight();
        due("lamp(5, 4)", x.lamp(5, 4), 2);
        due("lamp(0, 4)", x.lamp(0, 4), 54);
        due("lamp(5, 2)", x.lamp(5, 2), 4);
        due("lamp(0, 2)", x.lamp(0, 2), 52);
        due("lamp(0, 3)", x.lamp(0, 3), 2);
        says("Promise 8: NEEDS may be more than there are");
        x = drawerOf("n2;");
        due("lamp(0, 4)", x.lamp(0, 4), 2);
        says("Promise 8: THE BOOK is empty");
        x = drawerOf(Probe.FULL_BOOK);
        due("full", x.count(1), 10);
        due("the same LAMP", x.lamp(5, 2), 52);
        due("empty", x.count(1), 0);
        due("an empty one", x.lamp(0, 2), 52);
        due("empty", x.count(1), 0);
    }

    // ---- Promises 9 to 12

    /** What a LAMP tells of four, of which none, one .. all are good. */
    private static void tells(int kind, int... told) {
        TwoGoodOfEight x = new TwoGoodOfEight();
        x.lamp(kind, 4);
        for (int good = 0; good <= 4; good++) {
            x.truly(0b11110000 | (1 << good) - 1);
            due("KIND " + kind + ", good " + good, x.would(0b1111), told[good]);
        }
    }

    private static void would() {
        says("Promise 9: LAMP 1, if all are good, else 0");
        tells(0, 0, 0, 0, 0, 1);
        says("Promise 9: GLOW how many are good");
        tells(1, 0, 1, 2, 3, 4);
        says("Promise 9: THRIFTY 1, if all but one at least are good, else 0");
        tells(2, 0, 0, 0, 1, 1);
        says("Promise 9: ODD a GLOW's modulo 2");
        tells(3, 0, 1, 0, 1, 0);
        says("Promise 9: DIM a GLOW's, but no more than 2");
        tells(4, 0, 1, 2, 2, 2);
        says("Promise 9: CHAIN as a LAMP");
        tells(5, 0, 0, 0, 0, 1);
        says("Promise 9: CHAIN of 1 or more, all of them");
        TwoGoodOfEight x = drawerOf("l54;t7;");
        due("one good", x.would(128), 1);
        due("one flat", x.would(1), 0);
        due("all, one good", x.would(255), 0);
        x.truly(254);
        due("all but one good", x.would(255), 0);
        x.truly(255);
        due("all good", x.would(255), 1);
        says("Promise 9: both of two");
        due("LAMP", drawerOf("n2;").would(3), 0);
        due("GLOW", drawerOf("n2;l12;").would(3), 1);
        due("THRIFTY", drawerOf("n2;l22;").would(3), 1);
        says("Promise 9: the last of eight");
        due("would(192)", drawerOf("t67;").would(192), 1);
        due("would(240)", drawerOf("l14;t67;").would(240), 2);
    }

    private static void tries() {
        says("Promise 10: from an empty BOOK to a full one");
        TwoGoodOfEight x = drawerOf("l12;");
        for (int i = 0; i < 10; i++) {
            due("tries(192)", x.tries(192), 1);
            due("count(1)", x.count(1), i + 1);
        }
        due("an eleventh", x.tries(192), -6);
        says("Promise 10: room behind a struck one");
        x.strike();
        due("tries(5)", x.tries(5), 2);
        due("book(9)", x.book(9), 52);
        due("book(8)", x.book(8), 1921);
        says("Promise 10: room behind another LAMP");
        x.lamp(0, 2);
        due("tries(3)", x.tries(3), 0);
        due("book(0)", x.book(0), 30);
        says("Promise 10: both of two, one and all of a CHAIN");
        due("both of two", drawerOf("n2;t01;").tries(3), 1);
        x = drawerOf("l53;t;");
        due("one", x.tries(1), 0);
        due("all", x.tries(255), 0);
        due("book(1)", x.book(1), 2550);
        says("Promise 10: what the LAMP tells by what is TRULY so");
        x = drawerOf("g0=;t01;");
        due("though it may not be so", x.tries(3), 1);
        due("may(0)", x.may(0), 0);
    }

    private static void book() {
        says("Promise 11: the first and the last of a full BOOK");
        TwoGoodOfEight x = drawerOf(Probe.FULL_BOOK);
        due("book(0)", x.book(0), 11);
        due("book(8)", x.book(8), 851);
        due("book(9)", x.book(9), 30);
        says("Promise 11: the only one");
        x = drawerOf("b101;");
        due("book(0)", x.book(0), 31);
        due("book(1)", x.book(1), -1);
        says("Promise 11: 10 times the bits, and what was told, at most");
        due("all, 9 told", drawerOf("l52;b901234567;").book(0), 2559);
    }

    private static void strike() {
        says("Promise 12: from a full BOOK to an empty one");
        TwoGoodOfEight x = drawerOf(Probe.FULL_BOOK);
        for (int left = 9; left >= 0; left--) {
            due("strike()", x.strike(), left);
            due("count(1)", x.count(1), left);
            due("book(left)", x.book(left), -1);
            due("the first one", x.book(0), left > 0 ? 11 : -1);
        }
        due("strike()", x.strike(), -3);
        says("Promise 12: the last TRY is no more");
        x = drawerOf("b101;b112;");
        due("strike()", x.strike(), 1);
        due("book(0)", x.book(0), 31);
        says("Promise 12: MAY is as without it");
        due("may(0)", x.may(0), 15);
    }

    // ---- Promises 33 to 35

    private static void imageAndRestore() {
        says("Promise 33: how many TRIES, of an empty and of a full BOOK");
        TwoGoodOfEight x = new TwoGoodOfEight();
        due("image()", x.image(), 0);
        Probe.told(x, Probe.FULL_BOOK);
        due("image()", x.image(), 10);
        says("Promise 34: how many TRIES, of an empty and of a full BOOK");
        Probe.told(x, "n2;");
        due("restore()", x.restore(), 10);
        due("book(9)", x.book(9), 30);
        due("eight again", x.count(0), 8);
        x = new TwoGoodOfEight();
        x.image();
        Probe.told(x, Probe.FULL_BOOK);
        due("restore()", x.restore(), 0);
        due("book(0)", x.book(0), -1);
        says("Promise 34: all that there is");
        x = Probe.inUse();
        TwoGoodOfEight twin = Probe.inUse();
        x.drawer();
        twin.drawer();
        x.image();
        Probe.told(x, "n8;k059;t01234567;g8=;l54;b17;");
        x.put(0, 5);
        due("restore()", x.restore(), 2);
        CHECK.holds("as it was", Probe.seen(x).equals(Probe.seen(twin)));
        says("Promise 34: from two to eight and back");
        x = drawerOf("n2;k159;t1;g2+;");
        x.put(0, 5);
        x.image();
        Probe.told(x, "n8;");
        due("restore()", x.restore(), 0);
        due("two", x.count(0), 2);
        due("PLACE of 1", x.battery(1, 4), 0);
        due("TENTHS of 1", x.battery(1, 2), 6);
        due("good", x.good(0, 0), 5);
        due("truly", x.truly(0), 2);
        says("Promise 34: the IMAGE stays as it was taken, however often");
        due("restore()", x.restore(), 0);
        due("truly", x.truly(0), 2);
        due("good", x.good(1, 0), 5);
        says("THE IMAGE: but letters");
        Probe.feed(x, "t0;");
        x.restore();
        due("count(7)", x.count(7), 3);
        due("drawer()", x.drawer(), 1);
        says("THE IMAGE: but the ROW");
        x.row(3);
        x.row(0);
        x.restore();
        due("count(8)", x.count(8), 2);
        due("judge()", x.judge(), -9);
        says("THE IMAGE: but REFUSALS");
        x.may(3);
        x.restore();
        due("count(12)", x.count(12), 1);
        says("THE IMAGE: but it; the later one is kept");
        x.truly(3);
        x.image();
        x.truly(0);
        x.restore();
        due("truly", x.truly(0), 3);
    }

    private static void countIs(String text, int what, int answer) {
        due(text + " count(" + what + ")", drawerOf(text).count(what), answer);
    }

    private static void count() {
        says("Promise 35: the least and the greatest of each");
        countIs("n2;", 0, 2);
        countIs("n8;", 0, 8);
        countIs("n8;", 1, 0);
        countIs(Probe.FULL_BOOK, 1, 10);
        countIs("t;", 2, 0);
        countIs("t01234567;", 2, 8);
        countIs("g0=;", 3, 0);
        countIs("g8=;", 3, 8);
        countIs("g0=;", 4, 0);
        countIs("g0+;", 4, 1);
        countIs("l02;", 5, 0);
        countIs("l54;", 5, 5);
        countIs("l02;", 6, 2);
        countIs("l54;", 6, 4);
        countIs("n8;", 7, 0);
        countIs("n8;", 8, 0);
        countIs("b901;", 9, 0);
        countIs("g8=;", 9, 1);
        countIs("g0+;", 9, 256);
        countIs("n2;g0+;", 9, 4);
        TwoGoodOfEight x = new TwoGoodOfEight();
        Probe.feed(x, "x".repeat(96));
        due("letters", x.count(7), 96);
        for (int i = 0; i < 10; i++) {
            x.row(255);
        }
        due("the ROW", x.count(8), 10);
        says("Promise 35: -9 for another what");
        for (int what : new int[] {-1, -2, -11, 10, 17, 18, LEAST, GREATEST}) {
            due("count(" + what + ")", x.count(what), -9);
        }
        says("Promise 35: 11 .. 16");
        for (int what = 11; what <= 16; what++) {
            due("count(" + what + ")", x.count(what), 0);
        }
        x.battery(8, 0);
        x.order(-1);
        x.feed(0);
        due("the least of them", x.count(11), 1);
        due("-4", x.count(14), 1);
        due("-5, which no call answers", x.count(15), 0);
        due("the greatest of them", x.count(16), 1);
    }

    // ---- 512 calls

    private static void lastCall() {
        says("An object is used for at most 512 calls");
        TwoGoodOfEight x = drawerOf("n6;g3+;l03;");
        int calls = 12;
        while (calls < 504) {
            due("worst(-1)", x.worst(-1), 20);
            due("worst(19)", x.worst(19), 56);
            due("order(0)", x.order(0), 7);
            due("bestRule(5)", x.bestRule(5), 1);
            due("may(0)", x.may(0), 42);
            due("image()", x.image(), 0);
            calls += 6;
        }
        for (; calls < 511; calls++) {
            due("restore()", x.restore(), 0);
        }
        due("the 512th", x.worst(-1), 20);
    }
}
