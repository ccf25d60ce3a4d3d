/** What is least, greatest, empty and full in promises 22, 26 to 28 and 32: triers, putting back, evenings by seeds. */
public final class EveningEdgesTest {
    private static final int LEAST = Probe.LEAST;
    private static final int GREATEST = Probe.GREATEST;
    private static final Check CHECK = new Check();

    public static void main(String[] args) {
        twoAndEight();
        neverLit();
        trier();
        heap();
        slide();
        last();
        write();
        knower();
        placesAreTried();
        oneObjectThroughAll();
        back();
        bestRule();
        put();
        putWhereNeverLit();
        seeds();
        seedsLeastAndGreatest();
        seedsByTenths();
        CHECK.close();
    }

    private static void says(String sentence) {
        CHECK.about(sentence);
    }

    private static void due(String call, long got, long want) {
        CHECK.due(call, got, want);
    }

    private static void makes(int kind, String text, int tries) {
        due(text + " trier(" + kind + ")", Probe.drawerOf(text).trier(kind), tries);
    }

    // ---- Promise 22

    private static void twoAndEight() {
        says("Promise 22: the only pair of two");
        for (int kind = 0; kind <= 5; kind++) {
            makes(kind, "n2;g2=;t01;", 1);
            makes(kind, "n2;g1=;t01;", 1);
        }
        says("Promise 22: all of eight are good");
        for (int kind = 0; kind <= 5; kind++) {
            makes(kind, "t01234567;", 1);
            makes(kind, "g8=;t01234567;", 1);
        }
        says("Promise 22: each of two needed, whatever the LAMP needs");
        for (int kind = 0; kind <= 5; kind++) {
            makes(kind, "n2;g2=;l04;t01;", 1);
        }
    }

    private static void neverLit() {
        says("Promise 22: -9 it is never LIT");
        for (int kind = 0; kind <= 5; kind++) {
            makes(kind, "t;", -9);
            makes(kind, "t0;", -9);
            makes(kind, "t7;", -9);
            makes(kind, "n2;t;", -9);
            makes(kind, "n2;t1;", -9);
        }
    }

    private static void trier() {
        says("Promise 22: TRIER, the first, the last and those between");
        makes(0, "t01;", 1);
        makes(0, "t02;", 2);
        makes(0, "t07;", 7);
        makes(0, "t12;", 8);
        makes(0, "t57;", 27);
        makes(0, "t67;", 28);
        makes(0, "n3;t12;", 3);
    }

    private static void heap() {
        says("Promise 22: HEAP, one heap at least");
        for (String g : new String[] {"g0=;", "g1=;", "g2=;"}) {
            makes(1, g + "t07;", 7);
            makes(1, g + "t12;", 8);
            makes(1, g + "t67;", 28);
        }
        makes(1, "n2;g0=;t01;", 1);
        says("Promise 22: HEAP, as many heaps as g less 1");
        makes(1, "g3=;t03;", 3);
        makes(1, "g3=;t23;", 6);
        makes(1, "g3=;t45;", 7);
        makes(1, "g3=;t67;", 12);
        makes(1, "g3=;t04;", 13);
        makes(1, "g3=;t37;", 28);
        makes(1, "g8=;t01;", 1);
        makes(1, "g8=;t02;", 2);
        makes(1, "g8=;t67;", 28);
        says("Promise 22: HEAP, larger ones first");
        makes(1, "n3;g3=;t12;", 3);
        makes(1, "n5;g3=;t12;", 3);
        makes(1, "n5;g3=;t34;", 4);
        makes(1, "n5;g3=;t03;", 5);
        makes(1, "n5;g4=;t23;", 2);
        makes(1, "n5;g4=;t34;", 10);
        makes(1, "g4=;t67;", 7);
        makes(1, "g4=;t03;", 8);
        says("Promise 22: HEAP, at least g as just g");
        makes(1, "g3+;t67;", 12);
        makes(1, "g0+;t67;", 28);
    }

    private static void slide() {
        says("Promise 22: SLIDE, neighbours first, the two ends last");
        makes(2, "t01;", 1);
        makes(2, "t67;", 7);
        makes(2, "t02;", 8);
        makes(2, "t57;", 13);
        makes(2, "t06;", 26);
        makes(2, "t17;", 27);
        makes(2, "t07;", 28);
        makes(2, "n3;t02;", 3);
    }

    private static void last() {
        says("Promise 22: LAST, from the last PLACE on");
        makes(3, "t67;", 1);
        makes(3, "t57;", 2);
        makes(3, "t07;", 7);
        makes(3, "t56;", 8);
        makes(3, "t02;", 27);
        makes(3, "t01;", 28);
        makes(3, "n3;t01;", 3);
    }

    private static void write() {
        says("Promise 22: WRITE, in as many dark pairs as there can be flat ones is not more");
        makes(4, "n3;g2=;t12;", 3);
        makes(4, "g3=;t06;", 15);
        says("Promise 22: WRITE, in more dark pairs than there can be flat ones");
        makes(4, "n3;g3=;t12;", -9);
        makes(4, "g3=;t07;", -9);
        says("Promise 22: WRITE, none can be flat");
        makes(4, "g8=;t01;", 1);
        makes(4, "g8=;t23;", 2);
        makes(4, "g8=;t67;", 4);
        makes(4, "g8=;t02;", -9);
        makes(4, "g8+;t24;", -9);
        says("Promise 22: WRITE, all can be flat");
        makes(4, "g0=;t67;", 28);
        makes(4, "g1=;t67;", 28);
        makes(4, "n2;g0=;t01;", 1);
    }

    private static void knower() {
        says("Promise 22: KNOWER, none is SURELY flat");
        makes(5, "g0+;t07;", 28);
        says("Promise 22: KNOWER, the first or the last is SURELY flat");
        makes(5, "l52;b00;t12;", 1);
        makes(5, "l52;b00;t17;", 21);
        makes(5, "l52;b07;t56;", 6);
        makes(5, "l52;b07;t06;", 21);
        makes(5, "l52;b07;t67;", -9);
        says("Promise 22: KNOWER, all but two are SURELY flat");
        makes(5, "g2=;l52;b10;b17;t07;", 1);
        says("Promise 22: KNOWER, all are SURELY flat");
        makes(5, "g0=;t01234567;", -9);
        makes(5, "n2;g0=;t01;", -9);
        says("Promise 22: KNOWER, none is SURELY flat where MAY is none");
        makes(5, "l52;b00;b10;t07;", 28);
        says("Promise 22: KNOWER, a SURELY good one is tried");
        makes(5, "l52;b10;t02;", 8);
    }

    private static void placesAreTried() {
        says("Promise 22: pairs of PLACES");
        TwoGoodOfEight x = Probe.drawerOf("t02;");
        int[] before = {2, 2, 8, 27, 2, 8};
        int[] behind = {27, 28, 13, 2, 28, 13};
        for (int kind = 0; kind <= 5; kind++) {
            due("trier(" + kind + ")", x.trier(kind), before[kind]);
        }
        x.good(3, 0);
        due("trier(1)", x.trier(1), 2);
        x.put(0, 5);
        due("trier(1)", x.trier(1), 11);
        x.good(2, 0);
        behind[1] = 27;
        behind[4] = 27;
        for (int kind = 0; kind <= 5; kind++) {
            due("turned round, trier(" + kind + ")", x.trier(kind), behind[kind]);
        }
    }

    private static void oneObjectThroughAll() {
        says("Promise 22: eight, two, eight again; many heaps, one heap");
        TwoGoodOfEight x = Probe.drawerOf("g8=;t07;");
        int[] many = {7, 7, 28, 7, -9, 28};
        int[] two = {1, 1, 1, 1, 1, 1};
        int[] one = {28, 28, 7, 1, 28, 7};
        for (int kind = 0; kind <= 5; kind++) {
            x.good(kind == 5 ? 0 : 8, kind == 5 ? 1 : 0);
            due("seven heaps, trier(" + kind + ")", x.trier(kind), many[kind]);
        }
        Probe.told(x, "n2;t01;g2=;");
        for (int kind = 0; kind <= 5; kind++) {
            due("two, trier(" + kind + ")", x.trier(kind), two[kind]);
        }
        Probe.told(x, "n8;t67;g8=;");
        x.trier(1);
        x.good(1, 1);
        for (int kind = 0; kind <= 5; kind++) {
            due("one heap, trier(" + kind + ")", x.trier(kind), one[kind]);
        }
        for (int g = 0; g <= 1; g++) {
            x.good(3, 0);
            due("two heaps", x.trier(1), 12);
            x.good(g, 1);
            due("one heap at least", x.trier(1), 28);
        }
    }

    // ---- Promises 26 and 27

    private static void backIs(String text, int kind, int... tries) {
        for (int rule = 0; rule <= 5; rule++) {
            due(text + " back(" + kind + ", " + rule + ")", Probe.drawerOf(text).back(kind, rule), tries[rule]);
        }
    }

    private static void back() {
        says("Promise 26: two");
        for (int kind = 0; kind <= 5; kind++) {
            backIs("n2;g2=;t01;", kind, 1, 1, 1, 1, 1, 1);
        }
        says("Promise 26: LIT by the first TRY");
        backIs("t01;", 0, 1, 1, 1, 1, 1, 28);
        backIs("t67;", 3, 1, 28, 1, 28, 28, 28);
        says("Promise 26: LIT by the last TRY");
        backIs("t67;", 0, 28, 1, 1, 1, 1, 1);
        backIs("t07;", 2, 28, 1, 1, 1, 1, 28);
        backIs("t01;", 3, 28, 28, 28, 28, 28, 1);
        says("Promise 26: -9, never LIT");
        for (int kind = 0; kind <= 5; kind++) {
            backIs("t;", kind, -9, -9, -9, -9, -9, -9);
            backIs("n2;t1;", kind, -9, -9, -9, -9, -9, -9);
        }
        says("Promise 26: 2 known flat ones last");
        backIs("t03;", 1, 8, 1, 1, 1, 1, 26);
        says("Promise 26: never LIT, but the next evening");
        backIs("g7=;t57;", 4, -9, -9, -9, -9, -9, 3);
        backIs("n5;g3=;t04;", 4, -9, -9, -9, -9, 3, -9);
        says("Promise 26: nothing is put back");
        TwoGoodOfEight x = Probe.inUse();
        for (int rule = 0; rule <= 5; rule++) {
            x.back(rule, rule);
            x.bestRule(rule);
        }
        CHECK.holds("as it was", Probe.spent(x).equals(Probe.spent(Probe.inUse())));
    }

    private static void bestRuleIs(String text, int kind, int rule) {
        due(text + " bestRule(" + kind + ")", Probe.drawerOf(text).bestRule(kind), rule);
    }

    private static void bestRule() {
        says("Promise 27: of several the least");
        bestRuleIs("t01;", 0, 0);
        bestRuleIs("t67;", 0, 1);
        bestRuleIs("t07;", 2, 1);
        says("Promise 27: the greatest");
        bestRuleIs("t01;", 3, 5);
        says("Promise 27: two");
        bestRuleIs("n2;g2=;t01;", 5, 0);
        says("Promise 27: never LIT by any");
        for (int kind = 0; kind <= 5; kind++) {
            bestRuleIs("t;", kind, 0);
        }
        says("Promise 27: never LIT counts as 99");
        bestRuleIs("g7=;t57;", 4, 5);
        bestRuleIs("n5;g3=;t04;", 4, 4);
        bestRuleIs("g7=;t057;", 4, 4);
    }

    // ---- Promise 28

    private static void puts(String text, int kind, int rule, int tries, int... lying) {
        TwoGoodOfEight x = Probe.drawerOf(text);
        due(text + " put(" + kind + ", " + rule + ")", x.put(kind, rule), tries);
        for (int place = 0; place < lying.length; place++) {
            due("PLACE of " + lying[place], x.battery(lying[place], 4), place);
        }
    }

    private static void put() {
        says("Promise 28: 0 as they lay");
        puts("t17;", 0, 0, 13, 0, 1, 2, 3, 4, 5, 6, 7);
        says("Promise 28: 1 known good ones first");
        puts("t17;", 0, 1, 13, 1, 7, 0, 2, 3, 4, 5, 6);
        says("Promise 28: 2 known flat ones last");
        puts("t13;", 0, 2, 9, 1, 3, 4, 5, 6, 7, 0, 2);
        puts("t03;", 1, 2, 8, 0, 3, 6, 7, 1, 2, 4, 5);
        says("Promise 28: 3 both");
        puts("t25;", 0, 3, 16, 2, 5, 6, 7, 0, 1, 3, 4);
        puts("t17;", 0, 3, 13, 1, 7, 0, 2, 3, 4, 5, 6);
        says("Promise 28: 4 the two of the last TRY first");
        puts("t17;", 0, 4, 13, 1, 7, 0, 2, 3, 4, 5, 6);
        puts("t57;", 3, 4, 2, 5, 7, 0, 1, 2, 3, 4, 6);
        says("Promise 28: 5 all turned round");
        puts("t17;", 0, 5, 13, 7, 6, 5, 4, 3, 2, 1, 0);
        puts("n2;t01;", 0, 5, 1, 1, 0);
        says("Promise 28: 5 all turned round, twice");
        TwoGoodOfEight x = Probe.drawerOf("t17;");
        x.put(0, 5);
        due("put(0, 5)", x.put(0, 5), 6);
        for (int b = 0; b < 8; b++) {
            due("PLACE of " + b, x.battery(b, 4), b);
        }
        says("Promise 28: dark pairs without a known good one tell of none");
        puts("t67;", 2, 2, 7, 0, 1, 2, 3, 4, 6, 7, 5);
        says("Promise 28: LIT by the first TRY, none is known flat");
        puts("t01;", 0, 2, 1, 0, 1, 2, 3, 4, 5, 6, 7);
        says("Promise 28: who are TRULY good stay so");
        x = Probe.drawerOf("t17;b101;");
        x.put(0, 1);
        due("truly", x.truly(0), 130);
        due("THE BOOK stays", x.count(1), 1);
    }

    private static void putWhereNeverLit() {
        says("Promise 28: -9 never LIT, none known good, none known flat");
        for (int rule = 0; rule <= 3; rule++) {
            puts("t1;", 0, rule, -9, 0, 1, 2, 3, 4, 5, 6, 7);
        }
        says("Promise 28: -9 never LIT, the last TRY was dark");
        puts("t1;", 0, 4, -9, 6, 7, 0, 1, 2, 3, 4, 5);
        puts("n2;t;", 0, 4, -9, 0, 1);
        says("Promise 28: -9 never LIT, turned round");
        puts("t1;", 0, 5, -9, 7, 6, 5, 4, 3, 2, 1, 0);
        puts("n2;t;", 0, 5, -9, 1, 0);
        says("Promise 28: no TRY was made");
        for (int rule = 0; rule <= 4; rule++) {
            puts("g0=;", 5, rule, -9, 0, 1, 2, 3, 4, 5, 6, 7);
        }
        puts("g0=;", 5, 5, -9, 7, 6, 5, 4, 3, 2, 1, 0);
        says("Promise 28: no TRY was made, but another evening ahead");
        TwoGoodOfEight x = Probe.drawerOf("g0=;t67;");
        due("trier(0)", x.trier(0), 28);
        due("put(5, 4)", x.put(5, 4), -9);
        due("PLACE of 6", x.battery(6, 4), 6);
        due("PLACE of 0", x.battery(0, 4), 0);
    }

    // ---- Promise 32

    private static void seedsAre(String text, int kind, int n, int z, int tries, int evenings) {
        TwoGoodOfEight x = Probe.drawerOf(text);
        due(text + " seeds(" + kind + ", " + n + ", " + z + ", 0)", x.seeds(kind, n, z, 0), tries);
        due(text + " seeds(" + kind + ", " + n + ", " + z + ", 1)", x.seeds(kind, n, z, 1), evenings);
    }

    private static void seeds() {
        says("Promise 32: one evening, each KIND");
        int[] ofOne = {7, 12, 28, 7, 0, 28};
        for (int kind = 0; kind <= 5; kind++) {
            seedsAre("n8;", kind, 1, 0, ofOne[kind], kind == 4 ? 0 : 1);
        }
        says("Promise 32: twenty evenings, each KIND");
        int[] ofTwenty = {171, 92, 94, 135, 76, 94};
        for (int kind = 0; kind <= 5; kind++) {
            seedsAre("n8;", kind, 20, 0, ofTwenty[kind], kind == 4 ? 19 : 20);
        }
        says("Promise 32: nothing changes");
        TwoGoodOfEight x = Probe.inUse();
        x.seeds(5, 20, GREATEST, 0);
        CHECK.holds("as it was", Probe.spent(x).equals(Probe.spent(Probe.inUse())));
    }

    private static void seedsLeastAndGreatest() {
        says("Promise 32: z without its sign's bit");
        int[] ofLeast = {171, 92, 94, 135, 76, 94};
        int[] ofGreatest = {155, 108, 91, 131, 80, 91};
        for (int kind = 0; kind <= 5; kind++) {
            seedsAre("n8;", kind, 20, LEAST, ofLeast[kind], kind == 4 ? 19 : 20);
            seedsAre("n8;", kind, 20, GREATEST, ofGreatest[kind], kind == 4 ? 17 : 18);
            seedsAre("n8;", kind, 20, -1, ofGreatest[kind], kind == 4 ? 17 : 18);
        }
        seedsAre("n8;", 0, 1, -1, 15, 1);
        seedsAre("n8;", 3, 1, -1, 1, 1);
        seedsAre("n8;", 0, 20, 1, 141, 20);
    }

    private static void seedsByTenths() {
        says("Promise 32: never LIT, none counted");
        seedsAre("n2;k030;k130;", 0, 20, 0, 0, 0);
        seedsAre("n2;k030;k130;", 0, 20, GREATEST, 0, 0);
        says("Promise 32: a DRAW below 10 less than TENTHS, the greatest");
        seedsAre("n2;k041;k141;", 0, 20, 0, 19, 19);
        seedsAre("n2;k041;k141;", 0, 20, -1, 16, 16);
        seedsAre("k041;k141;k241;k341;k441;k541;k641;k741;", 0, 20, 0, 59, 20);
        says("Promise 32: a DRAW below 10 less than TENTHS, the least");
        seedsAre("k030;k130;k230;k330;k430;k530;k630;k730;", 0, 20, 0, 36, 4);
        says("Promise 32: a DRAW as great as TENTHS is not less");
        seedsAre("n2;k020;k120;", 0, 1, 1, 0, 0);
        seedsAre("n2;k041;k141;", 0, 1, 1, 1, 1);
        says("Promise 32: two");
        seedsAre("n2;", 5, 20, 0, 7, 7);
        says("Promise 32: KNOWER, all are SURELY flat");
        seedsAre("g0=;", 5, 20, 0, 0, 0);
    }
}
