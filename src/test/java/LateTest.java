/** Bounds that a run reaches late: an object is used for 512 calls, and they hold in the last one too. */
public final class LateTest {
    private static final Check CHECK = new Check("LateTest");
    private static final int BAD = NoneMinds.BAD, NO = NoneMinds.NO, FULL = NoneMinds.FULL, NONE = NoneMinds.NONE;
    private static final String SIX = "d6;g0111111;g0111111;v3;";

    public static void main(String[] args) {
        text();
        textOfOnes();
        lays();
        minutes();
        passesAndUndos();
        vetoesAndUndos();
        vetoesKept();
        ordersAndUndos();
        heard();
        kept();
        backs();
        questions();
        refusals();
        evenings();
        CHECK.finish();
    }

    private static Run run(int promise) {
        return new Run(CHECK, "late, " + promise);
    }

    private static void ended(Run run) {
        CHECK.due("calls of a run", run.calls(), Run.LIMIT);
    }

    /** 200 letters, full, wiped, and so on: the text is full again in the last call but one. */
    private static void text() {
        Run run = run(2);
        for (int round = 0; round < 2; round++) {
            for (int k = 1; k <= 200; k++) run.due("write(59)", k);
            run.due("write(59)", FULL).due("wipe()", 200);
        }
        for (int k = 1; k <= 107; k++) run.due("write(126)", k);
        ended(run.due("wipe()", 107));
        Run full = run(2).leaving(202);
        for (int k = 1; k <= 200; k++) full.due("write(32)", k);
        ended(full.due("write(31)", BAD).due("write(32)", FULL));
    }

    /** A letter and its wipe many times, then a text that is laid by the last call. */
    private static void textOfOnes() {
        Run run = run(5);
        for (int k = 0; k < 150; k++) run.due("write(103)", 1).due("fault()", 0).due("wipe()", 1);
        run.write("d2;g012;v3;s10;t0,10;h1;").due("fault()", NONE).leaving(1);
        ended(run.due("lay()", 1));
    }

    private static void lays() {
        Run run = run(5).write("d3;g0123;v1;");
        for (int k = 0; k < 54; k++) {
            run.due("lay()", 1).go("pass(30)").due("veto(0, 0)", 2).due("veto(0, 1)", NO).due("keep()", 1).due("keep()", 2);
            run.due("heard(0, 1, 1)", 1).due("count(6)", 2).due("order(1)", 50);
        }
        run.leaving(5).due("lay()", 1).due("undo()", NO).due("back()", NO).due("count(2)", 0);
        ended(run.due("veto(0, 0)", 2));
    }

    /** Minute by minute to the last one; then no minute goes by, and eight can be undone. */
    private static void minutes() {
        Run run = run(9);
        for (int m = 1; m <= 99; m++) run.due("pass(1)", m).due("count(2)", m);
        for (int k = 0; k < 200; k++) run.due("pass(" + (k % 30 + 1) + ")", NO);
        run.due("count(6)", 8);
        for (int k = 7; k >= 0; k--) run.due("undo()", k);
        run.due("count(2)", 91).due("undo()", NO).due("pass(9)", NO).due("pass(8)", 99).due("pass(1)", NO).due("undo()", 0);
        run.due("count(2)", 91).leaving(2);
        ended(run.due("pass(9)", NO).due("pass(8)", 99));
    }

    private static void passesAndUndos() {
        Run run = run(12);
        for (int k = 0; k < 240; k++) run.due("pass(" + (k % 30 + 1) + ")", k % 30 + 1).due("undo()", 0);
        run.due("undo()", NO).due("count(2)", 0);
        for (int k = 1; k <= 9; k++) run.due("pass(11)", 11 * k);
        run.due("pass(1)", NO).due("count(6)", 8);
        for (int k = 7; k >= 0; k--) run.due("undo()", k);
        run.due("undo()", NO).due("count(2)", 11).due("count(6)", 0).leaving(2);
        ended(run.due("pass(30)", 41).due("undo()", 0));
    }

    /** A veto that is undone is left again, however often; the last ones are as told. */
    private static void vetoesAndUndos() {
        Run run = run(10).laid(SIX);
        for (int k = 0; k < 225; k++) run.due("veto(1, " + k % 6 + ")", 5).due("undo()", 0);
        run.due("guest(1, 1)", 3).due("guest(0, 1)", 3).due("count(3)", 0);
        for (int k = 0; k < 3; k++) run.due("veto(1, " + k + ")", 5 - k).due("guest(1, 1)", 2 - k);
        run.due("veto(1, 3)", NO).due("veto(0, 3)", 2).due("veto(0, 4)", 1).due("veto(0, 5)", NO).due("veto(1, 5)", NO);
        run.due("guest(0, 1)", 1).due("count(3)", 5).leaving(2);
        ended(run.due("count(6)", 5).due("veto(0, 5)", NO));
    }

    /** Vetoes come back with what is kept too. */
    private static void vetoesKept() {
        Run run = run(31).laid(SIX).go("veto(0,5) keep()");
        for (int k = 0; k < 115; k++) {
            run.due("veto(0, " + k % 5 + ")", 4).due("guest(0, 1)", 1).due("back()", 0).due("keep()", 1);
        }
        run.due("guest(0, 1)", 2).due("veto(0, 0)", 4).due("veto(0, 1)", 3).due("veto(0, 2)", NO).due("veto(1, 2)", 2);
        run.due("back()", 0).due("guest(0, 1)", 2).due("guest(1, 1)", 3).due("count(3)", 1).due("undo()", NO);
        run.due("dish(5, 1)", 1).leaving(1);
        ended(run.due("back()", NO));
    }

    private static void ordersAndUndos() {
        Run run = run(11);
        for (int k = 0; k < 120; k++) {
            run.due("order(" + k % 4 + ")", new int[] {30, 20, 45, 20}[k % 4]).due("order(0)", NO).due("count(4)", k % 4).due("undo()", 0);
        }
        run.due("count(4)", NONE).go("pass(30) pass(30)").due("order(0)", 90).due("pass(1)", NO).due("undo()", 2);
        run.due("pass(1)", 61).due("order(0)", NO).due("order(1)", 81).due("undo()", 3).due("veto(0, 1)", 3).leaving(3);
        ended(run.due("order(1)", NO).due("order(3)", 81).due("order(3)", NO));
    }

    private static void heard() {
        Run run = run(22);
        for (int round = 0; round < 50; round++) {
            for (int k = 1; k <= 8; k++) run.due("heard(" + k % 6 + ", " + k % 4 + ", 0)", k);
            run.due("heard(0, 0, 1)", FULL).due("forget()", 8);
        }
        run.due("may(0)", 15).due("may(5)", 15).leaving(10);
        for (int k = 1; k <= 8; k++) run.due("heard(0, 3, 0)", k);
        run.due("may(0)", 13);
        ended(run.due("heard(0, 3, 1)", FULL));
    }

    /** Kept, full, and back, with a minute more each time. */
    private static void kept() {
        Run run = run(30);
        for (int k = 1; k <= 63; k++) {
            run.due("keep()", 1).due("pass(1)", k).due("keep()", 2).due("keep()", FULL).due("back()", 1).due("back()", 0);
            run.due("count(2)", k - 1).due("pass(1)", k);
        }
        run.leaving(6).due("keep()", 1).due("keep()", 2).due("keep()", FULL).due("back()", 1).due("back()", 0);
        ended(run.due("back()", NO));
    }

    private static void backs() {
        Run run = run(31).go("pass(7)");
        for (int k = 0; k < 127; k++) run.due("keep()", 1).due("back()", 0).due("undo()", NO).due("back()", NO);
        run.due("count(2)", 7).due("keep()", 1);
        ended(run.due("keep()", 2));
    }

    /** What is asked uses nothing up. */
    private static void questions() {
        String told = "pass(3) veto(1,2) keep() heard(0,0,1)";
        String asked = "most(0) fair(1) guest(0,2) dish(0,3) struck(5) may(0) evening(9,9,0) ";
        Run run = run(13).go(told).go(50, asked);
        CHECK.holds("late: all is as it was", run.look().equals(run(13).go(told).look()));
        run.leaving(6).due("undo()", 1).due("undo()", 0).due("undo()", NO).due("back()", 0).due("count(2)", 3);
        ended(run.due("count(3)", 1));
    }

    private static void refusals() {
        Run run = run(9).go("pass(3) keep() keep() order(1)");
        for (int k = 0; k < 100; k++) run.due("pass(1)", NO).due("veto(0, 0)", NO).due("order(0)", NO).due("keep()", FULL).due("pass(31)", BAD);
        run.due("count(6)", 2).due("count(7)", 2).due("count(2)", 3).due("count(4)", 1).due("undo()", 1).due("count(4)", NONE);
        ended(run.leaving(2).due("undo()", 0).due("undo()", NO));
    }

    private static void evenings() {
        Run run = run(29);
        for (int k = 0; k < 254; k++) run.due("evening(9999, 20, 0)", 1).due("evening(0, 4, 0)", 7);
        run.due("order(1)", 20).due("evening(0, 4, 0)", NO).due("undo()", 0);
        ended(run.due("evening(0, 20, 0)", 5));
    }
}
