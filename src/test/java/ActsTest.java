/** Promises 9 to 12: minutes that go by, dishes vetoed, one ordered, undone. */
public final class ActsTest {
    private static final Check CHECK = new Check("ActsTest");
    private static final String THREE = "d3;g0942;g1366;g3550;t0,10;t1,25;t2,60;s60;h10;";

    public static void main(String[] args) {
        pass();
        veto();
        vetoRefused();
        order();
        orderRefused();
        orderedTable();
        undo();
        undoEight();
        undoOfRefused();
        CHECK.finish();
    }

    private static void pass() {
        NoneMinds x = new NoneMinds();
        for (int n : new int[] {0, 31, -1, 99, Integer.MIN_VALUE, Integer.MAX_VALUE}) {
            CHECK.due("9: pass(" + n + ")", x.pass(n), NoneMinds.BAD);
        }
        CHECK.due("9: pass(1)", x.pass(1), 1);
        CHECK.due("9: pass(30)", x.pass(30), 31);
        CHECK.due("9: pass(30)", x.pass(30), 61);
        CHECK.due("9: pass(30)", x.pass(30), 91);
        CHECK.due("9: pass(9) above 99", x.pass(9), NoneMinds.NO);
        CHECK.due("9: count(2)", x.count(2), 91);
        CHECK.due("9: pass(8)", x.pass(8), 99);
        CHECK.due("9: pass(1) above 99", x.pass(1), NoneMinds.NO);
        CHECK.due("9: pass(31) at 99", x.pass(31), NoneMinds.BAD);
        CHECK.due("9: count(6)", x.count(6), 5);
    }

    private static void veto() {
        NoneMinds x = Check.laid(THREE + "v2;");
        CHECK.due("10: veto(1, 2)", x.veto(1, 2), 2);
        CHECK.due("10: dish(2, 1)", x.dish(2, 1), 1);
        CHECK.due("10: guest(1, 1)", x.guest(1, 1), 1);
        CHECK.due("10: guest(0, 1)", x.guest(0, 1), 2);
        CHECK.due("10: guest(2, 1)", x.guest(2, 1), 2);
        CHECK.due("10: veto(1, 2) again", x.veto(1, 2), NoneMinds.NO);
        CHECK.due("10: veto(0, 2) by another", x.veto(0, 2), NoneMinds.NO);
        CHECK.due("10: veto(1, 0)", x.veto(1, 0), 1);
        CHECK.due("10: veto(0, 1) of the last one", x.veto(0, 1), NoneMinds.NO);
        CHECK.due("10: count(3)", x.count(3), 2);
        CHECK.due("10: guest(0, 1) behind refusals", x.guest(0, 1), 2);
        CHECK.due("10: count(6)", x.count(6), 2);
        NoneMinds y = Check.laid("d6;g0111111;g0111111;v3;");
        for (int d = 0; d < 3; d++) CHECK.due("10: veto(1, " + d + ") of three", y.veto(1, d), 5 - d);
        CHECK.due("10: veto(1, 3), a fourth", y.veto(1, 3), NoneMinds.NO);
        CHECK.due("10: guest(1, 1)", y.guest(1, 1), 0);
        CHECK.due("10: guest(0, 1)", y.guest(0, 1), 3);
        CHECK.due("10: veto(0, 3)", y.veto(0, 3), 2);
        CHECK.due("10: veto(0, 5)", y.veto(0, 5), 1);
        CHECK.due("10: veto(0, 4) of the last one", y.veto(0, 4), NoneMinds.NO);
    }

    private static void vetoRefused() {
        NoneMinds x = Check.laid(THREE + "v1;");
        int[][] bad = {{-1, 0}, {3, 0}, {0, -1}, {0, 3}, {9, 9}, {Integer.MIN_VALUE, 0}, {0, Integer.MAX_VALUE}};
        for (int[] a : bad) CHECK.due("10: veto(" + a[0] + ", " + a[1] + ")", x.veto(a[0], a[1]), NoneMinds.BAD);
        x.veto(0, 0);
        CHECK.due("10: veto(0, 1), none left him", x.veto(0, 1), NoneMinds.NO);
        CHECK.due("10: veto(2, 1)", x.veto(2, 1), 1);
        x.undo();
        x.order(1);
        CHECK.due("10: veto(2, 2) when ordered", x.veto(2, 2), NoneMinds.NO);
        CHECK.due("10: veto(3, 2) when ordered", x.veto(3, 2), NoneMinds.BAD);
        NoneMinds y = Check.laid("d2;g011;v0;");
        CHECK.due("10: veto(0, 0) of none", y.veto(0, 0), NoneMinds.NO);
        CHECK.due("10: guest(0, 1) of none", y.guest(0, 1), 0);
        NoneMinds nine = Check.laid("d2;" + "g011;".repeat(9) + "v3;");
        CHECK.due("10: veto(8, 1)", nine.veto(8, 1), 1);
        CHECK.due("10: guest(8, 1)", nine.guest(8, 1), 2);
        CHECK.due("10: guest(7, 1)", nine.guest(7, 1), 3);
    }

    private static void order() {
        NoneMinds x = Check.laid(THREE);
        CHECK.due("11: order(2), just in time", x.order(2), 60);
        CHECK.due("11: count(4)", x.count(4), 2);
        x.undo();
        CHECK.due("11: count(4) undone", x.count(4), NoneMinds.NONE);
        x.pass(1);
        CHECK.due("11: order(2), a minute too late", x.order(2), NoneMinds.NO);
        CHECK.due("11: count(4)", x.count(4), NoneMinds.NONE);
        CHECK.due("11: order(1)", x.order(1), 26);
        x.undo();
        x.pass(30);
        x.pass(19);
        CHECK.due("11: order(0) at 50", x.order(0), 60);
        x.undo();
        x.pass(1);
        CHECK.due("11: order(0) at 51", x.order(0), NoneMinds.NO);
    }

    private static void orderRefused() {
        NoneMinds x = Check.laid(THREE);
        for (int d : new int[] {-1, 3, 4, Integer.MIN_VALUE, Integer.MAX_VALUE}) {
            CHECK.due("11: order(" + d + ")", x.order(d), NoneMinds.BAD);
        }
        x.veto(0, 0);
        CHECK.due("11: order(0), vetoed", x.order(0), NoneMinds.NO);
        CHECK.due("11: order(1)", x.order(1), 25);
        CHECK.due("11: order(1) again", x.order(1), NoneMinds.NO);
        CHECK.due("11: order(2) too", x.order(2), NoneMinds.NO);
        CHECK.due("11: order(3) when ordered", x.order(3), NoneMinds.BAD);
        CHECK.due("11: count(6)", x.count(6), 2);
    }

    private static void orderedTable() {
        NoneMinds x = Check.laid(THREE + "v2;");
        x.order(0);
        CHECK.due("9: pass(1) when ordered", x.pass(1), NoneMinds.NO);
        CHECK.due("9: pass(0) when ordered", x.pass(0), NoneMinds.BAD);
        CHECK.due("10: veto(0, 1) when ordered", x.veto(0, 1), NoneMinds.NO);
        CHECK.due("11: order(1) when ordered", x.order(1), NoneMinds.NO);
        CHECK.due("11: count(2)", x.count(2), 0);
        CHECK.due("11: count(4)", x.count(4), 0);
        CHECK.due("12: undo()", x.undo(), 0);
        CHECK.due("9: pass(1) undone", x.pass(1), 1);
    }

    private static void undo() {
        NoneMinds x = Check.laid(THREE + "v2;");
        CHECK.due("12: undo() of nothing", x.undo(), NoneMinds.NO);
        x.pass(7);
        x.veto(1, 2);
        x.veto(1, 0);
        x.order(1);
        x.heard(0, 0, 1);
        CHECK.due("12: count(6)", x.count(6), 4);
        CHECK.due("12: undo() of order", x.undo(), 3);
        CHECK.due("12: count(4)", x.count(4), NoneMinds.NONE);
        CHECK.due("12: undo() of veto", x.undo(), 2);
        CHECK.due("12: dish(0, 1)", x.dish(0, 1), 0);
        CHECK.due("12: dish(2, 1)", x.dish(2, 1), 1);
        CHECK.due("12: guest(1, 1)", x.guest(1, 1), 1);
        CHECK.due("12: undo() of veto", x.undo(), 1);
        CHECK.due("12: guest(1, 1)", x.guest(1, 1), 2);
        CHECK.due("12: count(3)", x.count(3), 0);
        CHECK.due("12: count(2)", x.count(2), 7);
        CHECK.due("12: undo() of pass", x.undo(), 0);
        CHECK.due("12: count(2)", x.count(2), 0);
        CHECK.due("12: undo() of nothing", x.undo(), NoneMinds.NO);
        CHECK.due("12: what was heard stays", x.count(5), 1);
    }

    private static void undoEight() {
        NoneMinds x = new NoneMinds();
        for (int k = 1; k <= 10; k++) {
            x.pass(k);
            CHECK.due("12: count(6) behind " + k, x.count(6), Math.min(k, 8));
        }
        int minute = 55;
        for (int k = 10; k >= 3; k--) {
            CHECK.due("12: undo() of pass(" + k + ")", x.undo(), k - 3);
            minute -= k;
            CHECK.due("12: count(2)", x.count(2), minute);
        }
        CHECK.due("12: undo() of a ninth", x.undo(), NoneMinds.NO);
        CHECK.due("12: count(2)", x.count(2), 3);
        x.pass(1);
        CHECK.due("12: count(6) anew", x.count(6), 1);
    }

    private static void undoOfRefused() {
        NoneMinds x = Check.laid(THREE);
        x.pass(5);
        x.pass(0);
        x.order(2);
        x.veto(0, 3);
        x.keep();
        x.heard(0, 0, 0);
        CHECK.due("12: refusals, what is kept and heard are not undone", x.count(6), 1);
        CHECK.due("12: undo()", x.undo(), 0);
        CHECK.due("12: count(2)", x.count(2), 0);
        CHECK.due("12: count(7)", x.count(7), 1);
        CHECK.due("12: count(5)", x.count(5), 1);
    }
}
