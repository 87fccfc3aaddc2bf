/** Promises 22 to 27: what was heard, whom a dish suits, who is against it, whom to ask. */
public final class HeardTest {
    private static final Check CHECK = new Check("HeardTest");
    private static final String THREE = "d3;g0942;g1366;g3550;h10;v2;";

    public static void main(String[] args) {
        heard();
        forget();
        may();
        mayOfChoosy();
        mayByThen();
        suits();
        against();
        ask();
        CHECK.finish();
    }

    private static void heard() {
        NoneMinds x = Check.laid(THREE);
        int[][] bad = {{-1, 0, 0}, {3, 0, 0}, {0, -1, 0}, {0, 3, 0}, {0, 0, -1}, {0, 0, 2}};
        for (int[] a : bad) {
            CHECK.due("22: heard(" + a[0] + ", " + a[1] + ", " + a[2] + ")", x.heard(a[0], a[1], a[2]), NoneMinds.BAD);
        }
        CHECK.due("22: count(5)", x.count(5), 0);
        x.veto(0, 2);
        for (int k = 1; k <= 8; k++) CHECK.due("22: heard(1, 2, 0), vetoed too", x.heard(1, 2, 0), k);
        CHECK.due("22: heard(0, 0, 0), a ninth", x.heard(0, 0, 0), NoneMinds.FULL);
        CHECK.due("22: heard(0, 0, 2), a ninth", x.heard(0, 0, 2), NoneMinds.BAD);
        CHECK.due("22: count(5)", x.count(5), 8);
        CHECK.due("22: may(0), the ninth is not heard", x.may(0), 15);
        NoneMinds y = Check.laid(THREE);
        y.order(0);
        CHECK.due("22: heard(0, 0, 1) when ordered", y.heard(0, 0, 1), 1);
        CHECK.due("22: heard(0, 0, 1) again", y.heard(0, 0, 1), 2);
    }

    private static void forget() {
        NoneMinds x = Check.laid(THREE);
        CHECK.due("23: forget() of nothing", x.forget(), 0);
        x.heard(0, 0, 0);
        x.heard(1, 0, 0);
        CHECK.due("23: forget()", x.forget(), 2);
        CHECK.due("23: count(5)", x.count(5), 0);
        CHECK.due("23: may(0)", x.may(0), 15);
        CHECK.due("23: forget() again", x.forget(), 0);
        for (int k = 1; k <= 8; k++) CHECK.due("23: heard(0, 0, 1)", x.heard(0, 0, 1), k);
        CHECK.due("23: forget() of eight", x.forget(), 8);
    }

    private static void may(String said, int i, int d, int heart, int want) {
        NoneMinds x = Check.laid(THREE);
        x.heard(i, d, heart);
        CHECK.due("24: may(" + i + ") by " + said, x.may(i), want);
        CHECK.due("24: may of another by " + said, x.may((i + 1) % 3), 15);
    }

    /** Kinds as bits: 1 FRANK, 2 POLITE, 4 SILENT, 8 CHOOSY. */
    private static void may() {
        may("a heart for the best, worth 9", 0, 0, 1, 1 + 2 + 8);
        may("none for the best, worth 9", 0, 0, 0, 4);
        may("a heart for what is worth 4", 0, 1, 1, 2);
        may("none for what is worth 4", 0, 1, 0, 1 + 4 + 8);
        may("a heart for the lowest of two best", 1, 1, 1, 1 + 2 + 8);
        may("a heart for the higher of two best", 1, 2, 1, 1 + 2);
        may("a heart for what is worth 5", 2, 1, 1, 1 + 2);
        may("none for what is worth 5", 2, 1, 0, 4 + 8);
        may("a heart for what is worth 0", 2, 2, 1, 2);
        NoneMinds x = Check.laid(THREE);
        CHECK.due("24: may(0) of nothing", x.may(0), 15);
        CHECK.due("24: may(-1)", x.may(-1), NoneMinds.BAD);
        CHECK.due("24: may(3)", x.may(3), NoneMinds.BAD);
        x.heard(0, 0, 1);
        CHECK.due("24: may(0)", x.may(0), 11);
        x.heard(0, 1, 1);
        CHECK.due("24: may(0)", x.may(0), 2);
        x.heard(0, 1, 0);
        CHECK.due("24: may(0), nothing of that", x.may(0), 0);
        x.heard(1, 0, 0);
        CHECK.due("24: may(1)", x.may(1), 1 + 4 + 8);
    }

    private static void mayOfChoosy() {
        NoneMinds x = Check.laid("d3;g0000;g0003;");
        x.heard(0, 0, 0);
        CHECK.due("24: may(0), CHOOSY with nothing worth a heart", x.may(0), 1 + 4 + 8);
        x.heard(1, 2, 1);
        CHECK.due("24: may(1), CHOOSY with one", x.may(1), 2 + 8);
        x.heard(0, 0, 1);
        CHECK.due("24: may(0)", x.may(0), 0);
    }

    private static void mayByThen() {
        NoneMinds x = Check.laid(THREE);
        x.heard(0, 1, 0);
        x.pass(10);
        CHECK.due("24: may(0), worth 4 then and 5 now", x.may(0), 13);
        x.heard(1, 0, 1);
        CHECK.due("24: may(1), worth 4 now", x.may(1), 2);
        x.forget();
        x.heard(0, 1, 1);
        CHECK.due("24: may(0), FRANK by what it is worth at 10", x.may(0), 1 + 2);
        x.undo();
        CHECK.due("24: may(0), heard at 10 and asked at 0", x.may(0), 1 + 2);
        x.forget();
        x.heard(0, 1, 0);
        x.veto(2, 1);
        CHECK.due("24: may(0), not vetoed then", x.may(0), 13);
        CHECK.due("24: heard(2, 1, 1)", x.heard(2, 1, 1), 2);
        CHECK.due("24: may(2), a heart for what is vetoed", x.may(2), 0);
        x.undo();
        CHECK.due("24: may(2), vetoed then", x.may(2), 0);
        x.forget();
        x.heard(2, 0, 0);
        CHECK.due("24: may(2)", x.may(2), 4);
        x.forget();
        x.veto(0, 0);
        x.heard(2, 1, 1);
        x.undo();
        CHECK.due("24: may(2), the best of those left then", x.may(2), 1 + 2 + 8);
        x.forget();
        x.veto(0, 2);
        x.heard(2, 2, 0);
        x.undo();
        CHECK.due("24: may(2), POLITE but vetoed then", x.may(2), 15);
    }

    private static void suits() {
        NoneMinds x = Check.laid(THREE);
        int[] due = {7, 6, 2};
        for (int d = 0; d < 3; d++) CHECK.due("25: suits(" + d + ")", x.suits(d), due[d]);
        CHECK.due("25: suits(-1)", x.suits(-1), NoneMinds.BAD);
        CHECK.due("25: suits(3)", x.suits(3), NoneMinds.BAD);
        x.veto(0, 0);
        CHECK.due("25: suits(0), vetoed", x.suits(0), NoneMinds.BAD);
        CHECK.due("25: suits(1) behind a veto", x.suits(1), 7);
        CHECK.due("25: suits(2) behind a veto", x.suits(2), 2);
        NoneMinds nine = Check.laid("d2;" + "g011;".repeat(9));
        CHECK.due("25: suits(1) of nine", nine.suits(1), 511);
        NoneMinds hungry = Check.laid("d2;g098;g090;h10;");
        CHECK.due("25: suits(1) at 0", hungry.suits(1), 0);
        hungry.pass(10);
        CHECK.due("25: suits(1) at 10", hungry.suits(1), 1);
    }

    private static void against() {
        NoneMinds x = Check.laid(THREE);
        int[][] due = {{1, 3}, {0, 4}, {2, 0}};
        for (int d = 0; d < 3; d++) {
            CHECK.due("26: against(" + d + ", 0)", x.against(d, 0), due[d][0]);
            CHECK.due("26: against(" + d + ", 1)", x.against(d, 1), due[d][1]);
        }
        int[][] bad = {{-1, 0}, {3, 0}, {0, 2}, {0, -1}};
        for (int[] a : bad) CHECK.due("26: against(" + a[0] + ", " + a[1] + ")", x.against(a[0], a[1]), NoneMinds.BAD);
        x.veto(0, 1);
        CHECK.due("26: against(1, 0), vetoed too", x.against(1, 0), 0);
        x.pass(20);
        CHECK.due("26: against(1, 1) at 20", x.against(1, 1), 6);
        CHECK.due("26: against(2, 1) at 20", x.against(2, 1), 0);
        NoneMinds y = Check.laid("d2;g051;g021;g021;");
        CHECK.due("26: against(0, 0), of several the lowest", y.against(0, 0), 1);
        CHECK.due("26: against(1, 0), of all the lowest", y.against(1, 0), 0);
    }

    private static void ask() {
        NoneMinds x = Check.laid(THREE);
        for (int n = 1; n <= 9; n++) CHECK.due("27: ask(" + n + ")", x.ask(n), 0);
        for (int n : new int[] {0, 10, -1, Integer.MIN_VALUE, Integer.MAX_VALUE}) {
            CHECK.due("27: ask(" + n + ")", x.ask(n), NoneMinds.BAD);
        }
        NoneMinds third = Check.laid("d2;g021;g021;g040;g006;");
        // 8 and 8: without 0 or 1 it is 6 and 7, without 2 it is 4 and 8
        CHECK.due("27: most(0)", third.most(0), 0);
        CHECK.due("27: ask(1)", third.ask(1), 0);
        NoneMinds last = Check.laid("d2;g020;g020;g060;g009;");
        // 10 and 9: without 0 it is 8 and 9
        CHECK.due("27: ask(1), the first of two", last.ask(1), 0);
        NoneMinds far = Check.laid("d2;g010;g010;g060;g005;");
        // 8 and 5: without 0 or 1 it is 7 and 5, without 2 it is 2 and 5
        CHECK.due("27: ask(1)", far.ask(1), NoneMinds.NONE);
        CHECK.due("27: ask(2)", far.ask(2), NoneMinds.NONE);
        CHECK.due("27: ask(3)", far.ask(3), 2);
        CHECK.due("27: ask(9)", far.ask(9), 2);
        NoneMinds none = Check.laid("d2;g060;g060;g005;");
        CHECK.due("27: ask(9), none", none.ask(9), NoneMinds.NONE);
        CHECK.due("27: ask(10), none", none.ask(10), NoneMinds.BAD);
        NoneMinds one = Check.laid("d2;g012;");
        CHECK.due("27: ask(1), without the only one all are worth nothing", one.ask(1), 0);
        NoneMinds low = Check.laid("d2;g021;");
        CHECK.due("27: ask(1), without the only one the lowest", low.ask(1), NoneMinds.NONE);
        far.veto(2, 0);
        CHECK.due("27: ask(9) of one dish", far.ask(9), NoneMinds.NONE);
    }
}
