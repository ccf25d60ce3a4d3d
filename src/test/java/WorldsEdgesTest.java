/** What is least, greatest, empty and full in promises 13 to 18, 20 and 21: what may be, and tries that follow from it. */
public final class WorldsEdgesTest {
    /** MAY is none: battery 0 of a CHAIN told good and flat. */
    private static final String MAY_IS_NONE = "l52;b10;b00;";
    /** RUSTY ones: TENTHS 1, the least. */
    private static final String ALL_RUSTY = "k030;k130;k230;k330;k430;k530;k630;k730;";
    /** PACKED ones, their FIGURE odd: TENTHS 9, the greatest. */
    private static final String ALL_PACKED = "k041;k141;k241;k341;k441;k541;k641;k741;";
    private static final int GREATEST = Probe.GREATEST;
    private static final Check CHECK = new Check();

    public static void main(String[] args) {
        may();
        mayByTheBook();
        likely();
        lit();
        leaves();
        split();
        lucky();
        worst();
        worstOfSeveral();
        order();
        mean();
        oneObjectThroughAll();
        CHECK.close();
    }

    private static void says(String sentence) {
        CHECK.about(sentence);
    }

    private static void due(String call, long got, long want) {
        CHECK.due(call, got, want);
    }

    // ---- Promise 13

    private static void mayIs(String text, int worlds, int good, int flat) {
        TwoGoodOfEight x = Probe.drawerOf(text);
        due(text + " may(0)", x.may(0), worlds);
        due(text + " may(1)", x.may(1), good);
        due(text + " may(2)", x.may(2), flat);
        due(text + " count(9)", x.count(9), worlds);
    }

    private static void may() {
        says("Promise 13: just none .. all of eight");
        int[] ofEight = {1, 8, 28, 56, 70, 56, 28, 8, 1};
        for (int g = 0; g <= 8; g++) {
            mayIs("g" + g + "=;", ofEight[g], g == 8 ? 255 : 0, g == 0 ? 255 : 0);
        }
        says("Promise 13: at least none .. all of eight");
        int[] atLeast = {256, 255, 247, 219, 163, 93, 37, 9, 1};
        for (int g = 0; g <= 8; g++) {
            mayIs("g" + g + "+;", atLeast[g], g == 8 ? 255 : 0, 0);
        }
        says("Promise 13: just none, one, all of two");
        mayIs("n2;g0=;", 1, 0, 3);
        mayIs("n2;g1=;", 2, 0, 0);
        mayIs("n2;g2=;", 1, 3, 0);
        says("Promise 13: at least none, one, all of two");
        mayIs("n2;g0+;", 4, 0, 0);
        mayIs("n2;g1+;", 3, 0, 0);
        mayIs("n2;g2+;", 1, 3, 0);
    }

    private static void mayByTheBook() {
        says("Promise 13: SURELY good, SURELY flat: none, if MAY is none");
        mayIs(MAY_IS_NONE, 0, 0, 0);
        mayIs("n2;" + MAY_IS_NONE, 0, 0, 0);
        mayIs("g0=;b101;", 0, 0, 0);
        mayIs("g8=;b001;", 0, 0, 0);
        says("Promise 13: a full BOOK");
        mayIs(Probe.FULL_BOOK, 1, 0b01010101, 0b10101010);
        mayIs("g0+;" + Probe.FULL_BOOK, 1, 0b01010101, 0b10101010);
        mayIs("g5+;" + Probe.FULL_BOOK, 0, 0, 0);
        says("Promise 13: all TRIES of THE BOOK, the first and the tenth too");
        mayIs("l52;b00;" + "b012;".repeat(9), 25, 0, 1);
        mayIs("l52;" + "b012;".repeat(9) + "b00;", 25, 0, 1);
        mayIs("l52;" + "b012;".repeat(9) + "b112;", 0, 0, 0);
        says("Promise 13: told what the LAMP never tells");
        mayIs("b201;", 0, 0, 0);
        mayIs("b901;", 0, 0, 0);
        mayIs("l12;b301;", 0, 0, 0);
        mayIs("l44;b30123;", 0, 0, 0);
        says("Promise 13: told the greatest that the LAMP tells");
        mayIs("l14;b40123;", 1, 0b1111, 0b11110000);
        mayIs("l44;b20123;", 53, 0, 0);
        says("Promise 13: the first and the last BATTERY");
        mayIs("l52;b10;b07;", 20, 1, 128);
        mayIs("n2;g1=;l52;b10;", 1, 1, 2);
    }

    // ---- Promises 14 and 15

    private static void likelyIs(String text, int battery, long above, long below) {
        TwoGoodOfEight x = Probe.drawerOf(text);
        due(text + " likely(" + battery + ", 0)", x.likely(battery, 0), above);
        due(text + " likely(" + battery + ", 1)", x.likely(battery, 1), below);
    }

    private static void likely() {
        says("Promise 14: 0 by 1 where they are none");
        likelyIs(MAY_IS_NONE, 0, 0, 1);
        likelyIs(MAY_IS_NONE, 7, 0, 1);
        says("Promise 14: surely flat, 0 by 1");
        likelyIs("g0=;", 0, 0, 1);
        likelyIs("l52;b07;", 7, 0, 1);
        says("Promise 14: surely good, 1 by 1");
        likelyIs("g8=;", 7, 1, 1);
        likelyIs("l52;b17;", 7, 1, 1);
        says("Promise 14: in least terms");
        likelyIs("g4=;", 0, 1, 2);
        likelyIs("g2=;", 7, 1, 4);
        likelyIs("g3=;", 7, 3, 8);
        says("Promise 14: the least and the greatest TENTHS");
        likelyIs("g0+;" + ALL_RUSTY, 0, 1, 10);
        likelyIs("g0+;" + ALL_PACKED, 7, 9, 10);
        likelyIs("n2;g0+;k030;k141;", 0, 1, 10);
        likelyIs("n2;g0+;k030;k141;", 1, 9, 10);
        says("Promise 14: WEIGHTS, those of all others too");
        likelyIs("g1=;" + ALL_PACKED + "k030;", 0, 1, 568);
        likelyIs("g1=;" + ALL_PACKED + "k030;", 7, 81, 568);
    }

    private static void litIs(String text, int set, long above, long below) {
        TwoGoodOfEight x = Probe.drawerOf(text);
        due(text + " lit(" + set + ", 0)", x.lit(set, 0), above);
        due(text + " lit(" + set + ", 1)", x.lit(set, 1), below);
    }

    private static void lit() {
        says("Promise 15: 0 by 1 where they are none");
        litIs(MAY_IS_NONE, 1, 0, 1);
        litIs(MAY_IS_NONE, 255, 0, 1);
        says("Promise 15: never LIT, 0 by 1");
        litIs("g1=;", 3, 0, 1);
        litIs("l04;g3=;", 240, 0, 1);
        says("Promise 15: surely LIT, 1 by 1");
        litIs("g8=;", 192, 1, 1);
        litIs("n2;g2=;", 3, 1, 1);
        litIs("l52;g8=;", 255, 1, 1);
        says("Promise 15: in least terms");
        litIs("n2;g0+;", 3, 1, 4);
        litIs("l04;g4=;", 15, 1, 70);
        litIs("g4=;", 192, 3, 14);
        says("Promise 15: one and all of a CHAIN, the least and the greatest TENTHS");
        litIs("l52;g0+;" + ALL_RUSTY, 128, 1, 10);
        litIs("l52;g0+;" + ALL_RUSTY, 255, 1, 100000000);
        litIs("l52;g0+;" + ALL_PACKED, 255, 43046721, 100000000);
        says("Promise 15: LIT, all of it are good, whatever the LAMP tells");
        litIs("n2;l22;g1=;", 3, 0, 1);
        litIs("n2;l32;g1=;", 3, 0, 1);
        litIs("n2;l32;g2=;", 3, 1, 1);
        litIs("n3;l43;g2=;", 7, 0, 1);
        litIs("n3;l43;g2+;", 7, 1, 4);
    }

    // ---- Promise 16

    private static void leavesIs(String text, int set, int left) {
        due(text + " leaves(" + set + ")", Probe.drawerOf(text).leaves(set), left);
    }

    private static void leaves() {
        says("Promise 16: 0 where MAY is none");
        leavesIs(MAY_IS_NONE, 1, 0);
        leavesIs(MAY_IS_NONE, 255, 0);
        says("Promise 16: MAY is one");
        leavesIs(Probe.FULL_BOOK, 1, 1);
        leavesIs("g8=;l14;", 240, 1);
        leavesIs("g0=;", 3, 1);
        says("Promise 16: MAY is all");
        leavesIs("g0+;", 192, 192);
        leavesIs("l14;g0+;", 240, 96);
        leavesIs("l24;g0+;", 15, 176);
        leavesIs("l34;g0+;", 15, 128);
        leavesIs("l44;g0+;", 15, 176);
        says("Promise 16: all left by the greatest that the LAMP tells");
        leavesIs("g5=;l14;b40123;", 15, 4);
        leavesIs("g5=;l13;b3012;", 7, 10);
        leavesIs("g5=;l12;b201;", 3, 20);
        leavesIs("g5=;l44;b20123;", 15, 52);
        says("Promise 16: one and all of a CHAIN");
        leavesIs("l52;g0+;", 128, 128);
        leavesIs("l52;g0+;", 255, 255);
        says("Promise 16: both of two");
        leavesIs("n2;g0+;", 3, 3);
        leavesIs("n2;l12;g0+;", 3, 2);
        says("Promise 16: numbers of WORLDS, not their WEIGHTS");
        leavesIs("g1=;" + ALL_PACKED + "k030;l52;", 1, 7);
    }

    // ---- Promise 17

    private static void bestIs(String text, int split, int lucky) {
        TwoGoodOfEight x = Probe.drawerOf(text);
        due(text + " best(0)", x.best(0), split);
        due(text + " best(1)", x.best(1), lucky);
    }

    private static void split() {
        says("Promise 17: SPLIT, of several the least bits");
        bestIs("n8;", 3, 3);
        bestIs("l03;", 7, 7);
        bestIs("l04;", 15, 15);
        says("Promise 17: SPLIT, the greatest bits");
        bestIs("g0+;l52;b00;b01;b02;b03;b04;b05;", 192, 192);
        bestIs("n5;g0+;l54;b00;", 30, 30);
        says("Promise 17: the only TRY");
        bestIs("n2;", 3, 3);
        bestIs("n3;l03;", 7, 7);
        bestIs("n4;l04;", 15, 15);
        says("Promise 17: SPLIT of just NEEDS, of a CHAIN too");
        bestIs("l52;g0+;", 3, 3);
        bestIs("l54;g0+;", 15, 15);
        says("Promise 17: -9 there is none");
        bestIs("n2;l03;", -9, -9);
        bestIs("n2;l54;", -9, -9);
        bestIs("n3;l04;", -9, -9);
        bestIs("n3;l54;b10;b00;", -9, -9);
        says("Promise 17: SPLIT where MAY is none, each leaves 0");
        bestIs(MAY_IS_NONE, 3, -9);
        bestIs("l54;b10;b00;", 15, -9);
        bestIs("n2;b901;", 3, -9);
    }

    private static void lucky() {
        says("Promise 17: LUCKY, the greatest bits");
        bestIs("k620;k720;", 3, 192);
        bestIs("l04;k420;k520;k620;k720;", 15, 240);
        says("Promise 17: LUCKY, of several the least bits");
        bestIs("k520;k620;k720;", 3, 96);
        says("Promise 17: LUCKY, LIT in none of MAY");
        bestIs("g0=;", 3, 3);
        bestIs("g1=;", 3, 3);
        bestIs("l04;g3=;", 15, 15);
        says("Promise 17: LUCKY by WEIGHTS");
        bestIs("n3;g2=;k010;", 3, 6);
        bestIs("n3;g2=;k230;", 3, 3);
    }

    // ---- Promise 18

    private static void row(String text, int... sets) {
        TwoGoodOfEight x = Probe.drawerOf(text);
        due(text + " worst(-1)", x.worst(-1), sets.length);
        for (int i = 0; i < sets.length; i++) {
            due(text + " worst(" + i + ")", x.worst(i), sets[i]);
        }
        due(text + " behind the last", x.worst(sets.length), -9);
        due(text + " worst(20)", x.worst(20), -9);
        due(text + " worst(greatest)", x.worst(GREATEST), -9);
    }

    private static void noRow(String text) {
        TwoGoodOfEight x = Probe.drawerOf(text);
        due(text + " worst(-1)", x.worst(-1), -9);
        due(text + " worst(0)", x.worst(0), -9);
        due(text + " worst(greatest)", x.worst(GREATEST), -9);
    }

    private static void worst() {
        says("Promise 18: two BATTERIES");
        row("n2;g2=;", 3);
        row("n2;g2+;", 3);
        says("Promise 18: six BATTERIES, seven are refused");
        row("n6;g6=;", 3);
        due("seven", Probe.drawerOf("n7;g7=;").worst(0), -3);
        says("Promise 18: no TRY is needed where MAY is none");
        row("n6;" + MAY_IS_NONE);
        row("n2;b101;b001;");
        says("Promise 18: -9 there are none such");
        noRow("n6;g0=;");
        noRow("n6;g1=;");
        noRow("n6;g1+;");
        noRow("n6;g0+;");
        noRow("n2;g1+;");
        noRow("n6;l04;g3=;");
        noRow("n2;l03;g2=;");
        noRow("n3;l54;g3=;");
        says("Promise 18: as many as there are TRIES");
        row("n6;g2=;", 3, 5, 6, 9, 10, 12, 17, 18, 20, 24, 33, 34, 36, 40, 48);
        row("n6;l03;g3=;", 7, 11, 13, 14, 19, 21, 22, 25, 26, 28, 35, 37, 38, 41, 42, 44, 49, 50, 52, 56);
        row("n6;l04;g4=;", 15, 23, 27, 29, 30, 39, 43, 45, 46, 51, 53, 54, 57, 58, 60);
        row("n4;l04;g4=;", 15);
        says("Promise 18: at least so many are as just so many");
        row("n6;l03;g3+;", 7, 11, 13, 14, 19, 21, 22, 25, 26, 28, 35, 37, 38, 41, 42, 44, 49, 50, 52, 56);
        says("Promise 18: a CHAIN's TRIES of NEEDS BATTERIES alone");
        row("n6;l52;g6=;", 3);
        row("n6;l54;g6=;", 15);
    }

    private static void worstOfSeveral() {
        says("Promise 18: of several the first by bits from the least");
        row("n4;g3=;", 3, 12);
        row("n6;g5=;", 3, 12);
        row("n6;g4=;", 3, 12, 48);
        row("n5;g4=;", 3, 12);
        row("n5;g3=;", 3, 5, 6, 24);
        row("n6;g6=;l03;", 7);
        row("n6;g5=;l03;", 7, 56);
        says("Promise 18: without those told dark");
        row("n6;g2=;b001;b045;", 5, 6, 9, 10, 12, 17, 18, 20, 24, 33, 34, 36, 40);
        row("n4;g3=;b001;", 12);
        says("Promise 18: those told LIT are enough");
        row("n6;g2+;b145;", 48);
        row("n6;g2+;l52;b14;b15;", 48);
    }

    // ---- Promises 20 and 21

    private static void orderIs(String text, int... sets) {
        TwoGoodOfEight x = Probe.drawerOf(text);
        for (int i = 0; i < sets.length; i++) {
            due(text + " order(" + i + ")", x.order(i), sets[i]);
        }
        due(text + " behind the last", x.order(sets.length), -9);
        due(text + " order(20)", x.order(20), -9);
        due(text + " order(greatest)", x.order(GREATEST), -9);
    }

    private static void order() {
        says("Promise 20: -9 where MAY is none");
        orderIs(MAY_IS_NONE);
        says("Promise 20: -9 where the LUCKY one is LIT in none");
        orderIs("g0=;");
        orderIs("g1=;");
        orderIs("l04;g3=;");
        says("Promise 20: -9 where there is no TRY");
        orderIs("n2;l03;g2=;");
        says("Promise 20: one");
        orderIs("n2;", 3);
        orderIs("n8;g8=;", 3);
        orderIs("n4;l04;g4=;", 15);
        says("Promise 20: till none is MAY any more");
        orderIs("n6;g2=;", 3, 5, 6, 9, 10, 12, 17, 18, 20, 24, 33, 34, 36, 40, 48);
        says("Promise 20: till the LUCKY one is LIT in none");
        orderIs("n3;g0+;", 3, 5, 6);
        orderIs("n3;g1+;", 3, 5, 6);
        says("Promise 20: 20 at most");
        orderIs("g2=;", 3, 5, 6, 9, 10, 12, 17, 18, 20, 24, 33, 34, 36, 40, 48, 65, 66, 68, 72, 80);
        orderIs("l04;g4=;", 15, 23, 27, 29, 30, 39, 43, 45, 46, 51, 53, 54, 57, 58, 60, 71, 75, 77, 78, 83);
        says("Promise 20: just 20");
        orderIs("n6;l03;g3=;", 7, 11, 13, 14, 19, 21, 22, 25, 26, 28, 35, 37, 38, 41, 42, 44, 49, 50, 52, 56);
        says("Promise 20: each the LUCKY one, if all ahead were not LIT");
        orderIs("n4;g3=;", 3, 12);
        orderIs("n4;g3=;k320;", 9, 6);
    }

    private static void meanIs(String text, long above, long below) {
        TwoGoodOfEight x = Probe.drawerOf(text);
        due(text + " mean(0)", x.mean(0), above);
        due(text + " mean(1)", x.mean(1), below);
    }

    private static void mean() {
        says("Promise 21: 0 by 1 where they are none");
        meanIs(MAY_IS_NONE, 0, 1);
        meanIs("g0=;", 0, 1);
        meanIs("g1=;", 0, 1);
        meanIs("n2;l03;g2=;", 0, 1);
        says("Promise 21: one TRY");
        meanIs("n2;g0+;", 1, 1);
        meanIs("g8=;", 1, 1);
        says("Promise 21: over all MAY in which one of them is LIT");
        meanIs("n3;g0+;", 7, 4);
        meanIs("n6;g2=;", 8, 1);
        says("Promise 21: 20 TRIES at most");
        meanIs("n6;l03;g3=;", 21, 2);
        meanIs("g2=;", 21, 2);
        meanIs("l04;g4=;", 21, 2);
        says("Promise 21: the least and the greatest WEIGHTS");
        meanIs("n3;g2=;k041;k141;k230;", 86, 83);
        meanIs("g0+;" + ALL_PACKED, 1526808, 1234559);
        meanIs("g0+;" + ALL_RUSTY, 132833368, 14437999);
    }

    // ---- all of them, of one object

    private static void sameObject(TwoGoodOfEight x, String text, int worlds, int split, int lucky, int[] row, int[] order) {
        CHECK.holds(text + " is a DRAWER", Probe.told(x, text) > 0);
        due(text + " may(0)", x.may(0), worlds);
        due(text + " best(0)", x.best(0), split);
        due(text + " best(1)", x.best(1), lucky);
        due(text + " worst(-1)", x.worst(-1), row.length > 0 || worlds == 0 ? row.length : -9);
        for (int i = 0; i < row.length; i++) {
            due(text + " worst(" + i + ")", x.worst(i), row[i]);
        }
        due(text + " behind the last", x.worst(row.length), -9);
        for (int i = 0; i < order.length; i++) {
            due(text + " order(" + i + ")", x.order(i), order[i]);
        }
        due(text + " order behind the last", x.order(order.length), -9);
        due(text + " mean(1) is above none", Math.min(1, x.mean(1)), 1);
    }

    private static void oneObjectThroughAll() {
        says("Promises 13 to 21: many, few, none, many again");
        TwoGoodOfEight x = new TwoGoodOfEight();
        int[] all = {3, 5, 6, 9, 10, 12, 17, 18, 20, 24, 33, 34, 36, 40, 48};
        int[] none = {};
        sameObject(x, "n6;g2=;", 15, 3, 3, all, all);
        sameObject(x, "n2;", 1, 3, 3, new int[] {3}, new int[] {3});
        sameObject(x, "b001;", 0, 3, -9, none, none);
        sameObject(x, "n6;l03;g3=;", 20, 7, 7, new int[] {7, 11, 13, 14, 19, 21, 22, 25, 26, 28, 35, 37, 38, 41, 42, 44, 49, 50, 52, 56},
            new int[] {7, 11, 13, 14, 19, 21, 22, 25, 26, 28, 35, 37, 38, 41, 42, 44, 49, 50, 52, 56});
        sameObject(x, "n3;", 1, 7, 7, new int[] {7}, new int[] {7});
        sameObject(x, "n4;l02;g3=;", 4, 3, 3, new int[] {3, 12}, new int[] {3, 12});
        sameObject(x, "g0=;", 1, 3, 3, none, none);
        sameObject(x, "n6;g2=;", 15, 3, 3, all, all);
    }
}
