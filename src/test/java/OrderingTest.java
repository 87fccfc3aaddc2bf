/** Promises 13 to 21: what to order. */
public final class OrderingTest {
    private static final Check CHECK = new Check("OrderingTest");
    private static final String THREE = "d3;g0942;g1366;g3550;t0,10;t1,25;t2,60;s60;h10;v2;";

    public static void main(String[] args) {
        most();
        fair();
        fairOfSeveral();
        beats();
        champion();
        middle();
        struck();
        two();
        houses();
        waits();
        waitsOfSeveral();
        waitsNone();
        CHECK.finish();
    }

    private static void most() {
        NoneMinds x = Check.laid(THREE);
        CHECK.due("13: most(0)", x.most(0), 0);
        CHECK.due("13: most(1)", x.most(1), 17);
        CHECK.due("13: most(2)", x.most(2), NoneMinds.BAD);
        CHECK.due("13: most(-1)", x.most(-1), NoneMinds.BAD);
        x.veto(0, 0);
        CHECK.due("13: most(0) behind a veto", x.most(0), 1);
        CHECK.due("13: most(1) behind a veto", x.most(1), 15);
        x.veto(0, 1);
        CHECK.due("13: most(0) of one", x.most(0), 2);
        CHECK.due("13: most(1) of one", x.most(1), 8);
        x.order(2);
        CHECK.due("13: most(0) when ordered", x.most(0), 2);
        NoneMinds y = Check.laid("d4;g01331;g03112;");
        CHECK.due("13: most(0) of several", y.most(0), 0);
        y.veto(0, 0);
        CHECK.due("13: most(0) of several", y.most(0), 1);
        CHECK.due("13: most(1) of several", y.most(1), 4);
        NoneMinds z = Check.laid("d2;g090;g003;g003;h10;");
        CHECK.due("13: most(0) at 0", z.most(0), 0);
        z.pass(19);
        CHECK.due("13: most(0) at 19", z.most(0), 0);
        z.pass(1);
        CHECK.due("13: most(0) at 20", z.most(0), 1);
        CHECK.due("13: most(1) at 20", z.most(1), 10);
        NoneMinds none = Check.laid("d3;g0000;");
        CHECK.due("13: most(0) of nothing", none.most(0), 0);
        CHECK.due("13: most(1) of nothing", none.most(1), 0);
    }

    private static void fair() {
        NoneMinds x = Check.laid(THREE);
        CHECK.due("14: fair(0)", x.fair(0), 1);
        CHECK.due("14: fair(1)", x.fair(1), 4);
        CHECK.due("14: fair(2)", x.fair(2), NoneMinds.BAD);
        CHECK.due("14: fair(-1)", x.fair(-1), NoneMinds.BAD);
        x.veto(0, 1);
        CHECK.due("14: fair(0) behind a veto", x.fair(0), 0);
        CHECK.due("14: fair(1) behind a veto", x.fair(1), 3);
        x.pass(10);
        CHECK.due("14: fair(1) at 10", x.fair(1), 4);
        x.veto(0, 0);
        CHECK.due("14: fair(0) of one", x.fair(0), 2);
        CHECK.due("14: fair(1) of one", x.fair(1), 0);
    }

    private static void fairOfSeveral() {
        NoneMinds x = Check.laid("d4;g02222;g03596;");
        CHECK.due("14: fair(0), of several that of MOST", x.fair(0), 2);
        CHECK.due("14: fair(1)", x.fair(1), 2);
        x.veto(0, 2);
        CHECK.due("14: fair(0), of several that of MOST", x.fair(0), 3);
        NoneMinds y = Check.laid("d4;g03344;g04311;g03449;");
        CHECK.due("14: most(0), not one of the several", y.most(0), 3);
        CHECK.due("14: fair(0), worth as much together, then the lowest", y.fair(0), 0);
        NoneMinds z = Check.laid("d3;g0229;g0340;");
        CHECK.due("14: most(0), not one of the several", z.most(0), 2);
        CHECK.due("14: fair(0), of several the one worth more to all together", z.fair(0), 1);
        NoneMinds none = Check.laid("d2;g000;g000;");
        CHECK.due("14: fair(0) of nothing", none.fair(0), 0);
        CHECK.due("14: fair(1) of nothing", none.fair(1), 0);
    }

    private static void beats() {
        NoneMinds x = Check.laid(THREE);
        int[][] due = {{-1, 50, 51}, {50, -1, 52}, {49, 48, -1}};
        for (int a = 0; a < 3; a++) {
            for (int b = 0; b < 3; b++) CHECK.due("15: beats(" + a + ", " + b + ")", x.beats(a, b), due[a][b]);
        }
        int[][] bad = {{-1, 0}, {0, -1}, {3, 0}, {0, 3}, {-1, -1}, {3, 3}};
        for (int[] a : bad) CHECK.due("15: beats(" + a[0] + ", " + a[1] + ")", x.beats(a[0], a[1]), NoneMinds.BAD);
        x.veto(0, 1);
        CHECK.due("15: beats(0, 1), vetoed", x.beats(0, 1), NoneMinds.BAD);
        CHECK.due("15: beats(1, 0), vetoed", x.beats(1, 0), NoneMinds.BAD);
        CHECK.due("15: beats(0, 2)", x.beats(0, 2), 51);
        NoneMinds y = Check.laid("d2;" + "g090;".repeat(9));
        CHECK.due("15: beats(0, 1) of nine", y.beats(0, 1), 59);
        CHECK.due("15: beats(1, 0) of nine", y.beats(1, 0), 41);
        NoneMinds z = Check.laid("d2;g089;h10;");
        CHECK.due("15: beats(1, 0) at 0", z.beats(1, 0), 51);
        z.pass(10);
        CHECK.due("15: beats(1, 0) at 10, both worth 9", z.beats(1, 0), 50);
    }

    private static void champion() {
        NoneMinds x = Check.laid(THREE);
        CHECK.due("16: champion(), two are even", x.champion(), NoneMinds.NONE);
        x.veto(0, 0);
        CHECK.due("16: champion() behind a veto", x.champion(), 1);
        x.veto(0, 1);
        CHECK.due("16: champion() of one", x.champion(), 2);
        NoneMinds round = Check.laid("d3;g0321;g0132;g0213;");
        CHECK.due("16: champion(), round and round", round.champion(), NoneMinds.NONE);
        NoneMinds last = Check.laid("d3;g0124;g0214;g0950;");
        CHECK.due("16: champion(), the last one", last.champion(), 2);
        NoneMinds most = Check.laid("d2;g090;g012;g012;");
        CHECK.due("16: champion() by heads, not by worth", most.champion(), 1);
        CHECK.due("13: most(0) by worth", most.most(0), 0);
        NoneMinds first = Check.laid("d3;g0210;g0201;");
        CHECK.due("16: champion(), the first one", first.champion(), 0);
        first.veto(0, 0);
        CHECK.due("16: champion(), of those left", first.champion(), NoneMinds.NONE);
        NoneMinds even = Check.laid("d2;g011;");
        CHECK.due("16: champion(), even", even.champion(), NoneMinds.NONE);
    }

    private static void middle() {
        NoneMinds x = Check.laid(THREE);
        CHECK.due("17: middle()", x.middle(), 2);
        x.veto(0, 1);
        CHECK.due("17: middle() of two", x.middle(), 0);
        x.veto(0, 0);
        CHECK.due("17: middle() of one", x.middle(), 4);
        NoneMinds even = Check.laid("d4;g01124;");
        CHECK.due("17: middle(), two are least", even.middle(), 15);
        even.veto(0, 0);
        CHECK.due("17: middle(), one is least", even.middle(), 12);
        NoneMinds high = Check.laid("d4;g04311;g04231;");
        CHECK.due("17: middle(), one has one that is least", high.middle(), 7);
        NoneMinds hungry = Check.laid("d3;g0789;h10;");
        CHECK.due("17: middle() at 0", hungry.middle(), 6);
        hungry.pass(20);
        CHECK.due("17: middle() at 20, all worth 9", hungry.middle(), 7);
    }

    private static void struck() {
        NoneMinds x = Check.laid(THREE);
        int[] due = {1, 1, 0};
        for (int i = 0; i < 3; i++) CHECK.due("18: struck(" + i + ")", x.struck(i), due[i]);
        CHECK.due("18: struck(-1)", x.struck(-1), NoneMinds.BAD);
        CHECK.due("18: struck(3)", x.struck(3), NoneMinds.BAD);
        CHECK.due("18: struck(9)", x.struck(9), NoneMinds.BAD);
        CHECK.due("18: nothing is vetoed by it", x.count(3), 0);
        x.veto(0, 1);
        CHECK.due("18: struck(0) behind a veto", x.struck(0), 0);
        CHECK.due("18: struck(1) behind a veto", x.struck(1), 2);
        x.veto(0, 0);
        CHECK.due("18: struck(1) of one", x.struck(1), 2);
        NoneMinds even = Check.laid("d6;g0555555;g1555555;");
        CHECK.due("18: struck(0), of several the highest", even.struck(0), 0);
        // 0 strikes 0 (1), 1 strikes 5 (1), 0 strikes 1 (2), 1 strikes 4 (2), 0 strikes 2 (3): 3 is left
        NoneMinds turns = Check.laid("d6;g0123456;g0654321;");
        CHECK.due("18: struck(0), by turns", turns.struck(0), 3);
        CHECK.due("18: struck(1), by turns", turns.struck(1), 2);
        NoneMinds alone = Check.laid("d4;g01423;");
        CHECK.due("18: struck(0), alone", alone.struck(0), 1);
    }

    private static void two() {
        NoneMinds x = Check.laid(THREE);
        CHECK.due("19: two(0), of several the first", x.two(0), 1);
        CHECK.due("19: two(1)", x.two(1), 20);
        CHECK.due("19: two(2)", x.two(2), NoneMinds.BAD);
        CHECK.due("19: two(-1)", x.two(-1), NoneMinds.BAD);
        x.veto(0, 0);
        CHECK.due("19: two(0) behind a veto", x.two(0), 10);
        CHECK.due("19: two(1) behind a veto", x.two(1), 15);
        x.veto(0, 1);
        CHECK.due("19: two(0) of one", x.two(0), NoneMinds.NONE);
        CHECK.due("19: two(1) of one", x.two(1), NoneMinds.NONE);
        NoneMinds high = Check.laid("d6;g0000090;g0000009;");
        CHECK.due("19: two(0), the highest two", high.two(0), 8 * 4 + 5);
        CHECK.due("19: two(1), the highest two", high.two(1), 18);
        NoneMinds even = Check.laid("d4;g01111;");
        even.veto(0, 0);
        CHECK.due("19: two(0), of several the first", even.two(0), 8 + 2);
        NoneMinds none = Check.laid("d3;g0000;");
        CHECK.due("19: two(0) of nothing", none.two(0), 1);
        CHECK.due("19: two(1) of nothing", none.two(1), 0);
        NoneMinds hungry = Check.laid("d2;g012;g031;h10;");
        hungry.pass(10);
        CHECK.due("19: two(1) at 10", hungry.two(1), 7);
    }

    private static void houses() {
        NoneMinds x = Check.laid(THREE);
        CHECK.due("20: houses(0)", x.houses(0), 1);
        CHECK.due("20: houses(2), one more", x.houses(2), 1);
        CHECK.due("20: houses(3), as much", x.houses(3), 2);
        CHECK.due("20: houses(99)", x.houses(99), 2);
        CHECK.due("20: houses(100)", x.houses(100), NoneMinds.BAD);
        CHECK.due("20: houses(-1)", x.houses(-1), NoneMinds.BAD);
        x.veto(0, 0);
        CHECK.due("20: houses(0), both together are worth as much as one", x.houses(0), 2);
        x.veto(0, 1);
        CHECK.due("20: houses(0) of one", x.houses(0), 2);
        CHECK.due("20: houses(100) of one", x.houses(100), NoneMinds.BAD);
        CHECK.due("20: houses(-1) of one", x.houses(-1), NoneMinds.BAD);
        NoneMinds high = Check.laid("d6;g0000090;g0000009;");
        CHECK.due("20: houses(8) of the highest two", high.houses(8), 1);
        CHECK.due("20: houses(9) of the highest two", high.houses(9), 2);
        NoneMinds apart = Check.laid("d6;g0900000;g0000009;");
        CHECK.due("20: houses(8) of the first and the last", apart.houses(8), 1);
        CHECK.due("20: houses(9) of the first and the last", apart.houses(9), 2);
        NoneMinds but = Check.laid("d2;g031;g013;");
        CHECK.due("20: houses(1) of two dishes", but.houses(1), 1);
        CHECK.due("20: houses(2) of two dishes", but.houses(2), 2);
    }

    private static void waits() {
        NoneMinds x = Check.laid(THREE);
        int[][] due = {{50, 26}, {30, 24}, {0, 8}};
        for (int d = 0; d < 3; d++) {
            CHECK.due("21: waits(" + d + ", 0)", x.waits(d, 0), due[d][0]);
            CHECK.due("21: waits(" + d + ", 1)", x.waits(d, 1), due[d][1]);
        }
        int[][] bad = {{-1, 0}, {3, 0}, {0, 2}, {0, -1}, {3, 1}};
        for (int[] a : bad) CHECK.due("21: waits(" + a[0] + ", " + a[1] + ")", x.waits(a[0], a[1]), NoneMinds.BAD);
        CHECK.due("21: no minute goes by", x.count(2), 0);
        x.pass(7);
        CHECK.due("21: waits(0, 0) at 7", x.waits(0, 0), 50);
        CHECK.due("21: waits(2, 0) at 7", x.waits(2, 0), NoneMinds.NONE);
        CHECK.due("21: waits(2, 1) at 7", x.waits(2, 1), NoneMinds.NONE);
        x.pass(28);
        CHECK.due("21: waits(1, 0) at 35, from now on", x.waits(1, 0), 35);
        CHECK.due("21: waits(1, 1) at 35", x.waits(1, 1), 24);
        x.pass(1);
        CHECK.due("21: waits(1, 0) at 36", x.waits(1, 0), NoneMinds.NONE);
        x.pass(14);
        CHECK.due("21: waits(0, 0) at 50", x.waits(0, 0), 50);
        x.pass(1);
        CHECK.due("21: waits(0, 0) at 51", x.waits(0, 0), NoneMinds.NONE);
    }

    private static void waitsOfSeveral() {
        NoneMinds x = Check.laid("d2;g090;h5;t0,1;t1,1;s99;");
        CHECK.due("21: waits(0, 0), of several the first", x.waits(0, 0), 0);
        CHECK.due("21: waits(1, 0), worth nothing ever", x.waits(1, 0), 0);
        CHECK.due("21: waits(1, 1), worth nothing ever", x.waits(1, 1), 0);
        x.pass(11);
        CHECK.due("21: waits(0, 0) at 11", x.waits(0, 0), 11);
        NoneMinds late = Check.laid("d2;g011;h49;t0,1;t1,2;s99;");
        CHECK.due("21: waits(0, 0), the last minute in time", late.waits(0, 0), 98);
        CHECK.due("21: waits(0, 1)", late.waits(0, 1), 3);
        CHECK.due("21: waits(1, 0), a minute too late for more", late.waits(1, 0), 49);
        CHECK.due("21: waits(1, 1)", late.waits(1, 1), 2);
    }

    private static void waitsNone() {
        NoneMinds x = Check.laid(THREE);
        x.veto(0, 0);
        CHECK.due("21: waits(0, 0), vetoed", x.waits(0, 0), NoneMinds.NONE);
        CHECK.due("21: waits(0, 1), vetoed", x.waits(0, 1), NoneMinds.NONE);
        CHECK.due("21: waits(1, 0)", x.waits(1, 0), 30);
        x.order(1);
        CHECK.due("21: waits(1, 0), ordered", x.waits(1, 0), NoneMinds.NONE);
        CHECK.due("21: waits(2, 1), ordered", x.waits(2, 1), NoneMinds.NONE);
        CHECK.due("21: waits(3, 0), ordered", x.waits(3, 0), NoneMinds.BAD);
    }
}
