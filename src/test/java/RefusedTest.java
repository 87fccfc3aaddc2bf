/**
 * The line behind section 4: each refusal of each call, of several the first (BAD, NO, NONE, FULL), and that nothing
 * changes then: neither what can be seen nor what is hidden (what can be undone, what is kept, the text).
 */
public final class RefusedTest {
    private static final Check CHECK = new Check("RefusedTest");
    private static final int BAD = NoneMinds.BAD, NO = NoneMinds.NO, FULL = NoneMinds.FULL, NONE = NoneMinds.NONE;
    private static final String THREE = "d3;g0942;g1366;g3550;t0,10;t1,25;t2,60;s60;h10;v2;";
    private static final String FULL_TEXT = "d2;g012;g021;v3;" + "t0,5;".repeat(36) + "s80;";
    private static final String ORDERED = "pass(4) veto(2,0) keep() heard(0,1,1) pass(3) order(1)";
    private static final String ONE_LEFT = "pass(4) keep() veto(2,0) heard(0,1,1) veto(1,2)";
    private static final String EIGHT_HEARD = "heard(0,0,1) heard(1,1,0) heard(2,2,1) heard(0,1,1) heard(1,0,0) "
            + "heard(2,1,0) heard(0,2,0) heard(0,0,1)";

    public static void main(String[] args) {
        textRefused();
        layRefused();
        actsRefused();
        orderedRefused();
        noneOfThem();
        fullOfThem();
        nothingToTake();
        badAhead();
        CHECK.finish();
    }

    private static Run run(String text, String calls) {
        Run run = new Run(CHECK, calls);
        if (!text.isEmpty()) run.laid(text);
        return run.go(calls);
    }

    /** The call behind these calls is refused so, and all is as if it had not been made. */
    private static void refused(String text, String calls, String call, int want) {
        Run seen = run(text, calls).due(call, want);
        CHECK.holds(calls + " " + call + " changes nothing", seen.look().equals(run(text, calls).look()));
        Run hidden = run(text, calls).due(call, want);
        CHECK.holds(calls + " " + call + " changes nothing hidden", hidden.unwind().equals(run(text, calls).unwind()));
        run(text, calls).due(call, want).due(call, want);
    }

    private static void textRefused() {
        for (String calls : new String[] {"", "pass(5) keep() veto(1,1)"}) {
            for (int letter : new int[] {31, 127, -1, 0, 10, Integer.MIN_VALUE, Integer.MAX_VALUE}) {
                refused("", calls, "write(" + letter + ")", BAD);
                refused(THREE, calls, "write(" + letter + ")", BAD);
                refused(FULL_TEXT, "pass(5) keep() veto(1,1)", "write(" + letter + ")", BAD);
            }
        }
        for (int letter : new int[] {32, 48, 59, 103, 126}) {
            refused(FULL_TEXT, "", "write(" + letter + ")", FULL);
            refused(FULL_TEXT, "pass(5) veto(0,0) keep()", "write(" + letter + ")", FULL);
        }
        refused("", "", "fault()", NONE);
        refused(THREE, ORDERED, "fault()", NONE);
        refused(FULL_TEXT, "veto(0,0)", "fault()", NONE);
    }

    /** A text that is not laid leaves the table, what is heard, can be undone and is kept. */
    private static void layRefused() {
        String told = "pass(4) keep() veto(2,0) heard(0,1,1) order(1) keep()";
        refused("", told, "lay()", NO);
        refused(THREE, told + " wipe()", "lay()", NO);
        refused(THREE, told + " write(59)", "lay()", NO);
        refused(THREE, told + " write(103)", "lay()", NO);
        refused(THREE, told + " wipe() write(118) write(49) write(59)", "lay()", NO);
        refused(THREE, told + " wipe() write(100) write(50)", "lay()", NO);
        refused(FULL_TEXT, "pass(4) keep() veto(1,0) heard(0,1,1) wipe()", "lay()", NO);
    }

    private static void actsRefused() {
        for (String text : new String[] {"", THREE}) {
            refused(text, "pass(30) pass(30) pass(30) keep() veto(0,0)", "pass(10)", NO);
            refused(text, "pass(30) pass(30) pass(30) pass(9)", "pass(1)", NO);
            refused(text, "pass(30) pass(30) pass(12) keep()", "pass(28)", NO);
            refused(text, "pass(30) pass(30) pass(30)", "order(2)", NO);
            refused(text, "veto(1,2) keep() pass(2)", "veto(0,2)", NO);
            refused(text, "veto(1,2) keep() pass(2)", "veto(1,2)", NO);
            refused(text, "veto(1,2) pass(2)", "order(2)", NO);
        }
        refused("", "veto(1,2) pass(2)", "veto(1,0)", NO);
        refused("", "pass(30) pass(30) pass(1) keep()", "order(0)", NO);
        refused(THREE, "pass(1)", "order(2)", NO);
        refused(THREE, ONE_LEFT, "veto(0,1)", NO);
        refused(THREE, ONE_LEFT, "veto(0,0)", NO);
        refused("d6;g0111111;g0111111;v3;", "veto(1,0) veto(1,2) veto(1,4)", "veto(1,1)", NO);
        refused("d2;g011;v0;", "pass(1)", "veto(0,0)", NO);
    }

    private static void orderedRefused() {
        for (String text : new String[] {THREE, "d4;g01234;g01234;g01234;v3;"}) {
            for (String call : new String[] {"pass(1)", "pass(30)", "veto(0,1)", "veto(0,2)", "veto(2,0)", "order(0)",
                "order(1)", "order(2)", "evening(0,1,0)", "evening(9999,20,1)"}) {
                refused(text, ORDERED, call, NO);
                refused(text, "order(0)", call, NO);
            }
            refused(text, ORDERED, "waits(0,0)", NONE);
            refused(text, ORDERED, "waits(1,1)", NONE);
            refused(text, ORDERED, "waits(2,0)", NONE);
        }
    }

    private static void noneOfThem() {
        refused(THREE, "pass(4) keep()", "champion()", NONE);
        refused(THREE, ONE_LEFT, "two(0)", NONE);
        refused(THREE, ONE_LEFT, "two(1)", NONE);
        refused(THREE, ONE_LEFT, "ask(9)", NONE);
        refused(THREE, ONE_LEFT, "ask(1)", NONE);
        refused(THREE, ONE_LEFT, "waits(0,0)", NONE);
        refused(THREE, "pass(1) keep()", "waits(2,1)", NONE);
        refused(THREE, ONE_LEFT, "count(4)", NONE);
    }

    private static void fullOfThem() {
        for (int i = 0; i < 3; i++) {
            refused(THREE, "pass(2) keep() " + EIGHT_HEARD + " pass(1)", "heard(" + i + ",1,1)", FULL);
            refused("", EIGHT_HEARD + " order(1)", "heard(" + i + ",0,0)", FULL);
        }
        refused(THREE, "keep() pass(2) veto(0,1) keep() pass(3)", "keep()", FULL);
        refused(THREE, "keep() keep() order(1)", "keep()", FULL);
        refused("", "keep() keep()", "keep()", FULL);
    }

    private static void nothingToTake() {
        for (String text : new String[] {"", THREE}) {
            refused(text, "", "undo()", NO);
            refused(text, "keep() heard(0,0,1)", "undo()", NO);
            refused(text, "pass(1) undo()", "undo()", NO);
            refused(text, "pass(1) keep() pass(1) back()", "undo()", NO);
            refused(text, "", "back()", NO);
            refused(text, "pass(1) veto(0,1) heard(0,0,1)", "back()", NO);
            refused(text, "keep() pass(1) back() pass(2) order(0)", "back()", NO);
        }
        new Run(CHECK, "3, 23").due("wipe()", 0).due("forget()", 0).due("wipe()", 0).due("forget()", 0).due("count(0)", 6);
    }

    /** A number that is none that is told goes ahead of all that is not as things stand, of none and of full. */
    private static void badAhead() {
        String ordered = ORDERED;
        for (String call : new String[] {"pass(0)", "pass(31)", "veto(3,0)", "veto(-1,1)", "veto(0,3)", "veto(0,-1)",
            "order(3)", "order(-1)", "waits(3,0)", "waits(-1,0)", "waits(0,2)", "waits(1,-1)", "evening(-1,1,0)",
            "evening(10000,1,0)", "evening(0,0,0)", "evening(0,21,0)", "evening(0,1,-1)", "evening(0,1,2)", "count(9)",
            "beats(1,0)", "beats(0,1)", "beats(1,1)", "beats(0,0)", "suits(0)", "suits(3)"}) {
            refused(THREE, ordered, call, BAD);
        }
        for (String call : new String[] {"two(-1)", "two(2)", "houses(-1)", "houses(100)", "ask(0)", "ask(10)",
            "waits(0,2)", "waits(0,-1)", "waits(3,1)", "veto(3,1)", "veto(0,3)", "beats(0,1)", "beats(1,0)", "beats(1,1)",
            "suits(0)", "suits(2)", "suits(-1)", "most(2)", "fair(2)", "struck(3)", "struck(-1)", "count(-1)"}) {
            refused(THREE, ONE_LEFT, call, BAD);
        }
        for (String call : new String[] {"heard(3,0,0)", "heard(-1,0,0)", "heard(0,3,0)", "heard(0,-1,0)", "heard(0,0,2)",
            "heard(0,0,-1)", "may(3)", "may(-1)"}) {
            refused(THREE, EIGHT_HEARD, call, BAD);
        }
        for (String call : new String[] {"pass(31)", "pass(0)", "order(4)", "waits(4,0)", "waits(0,2)"}) {
            refused("", "pass(30) pass(30) pass(30) pass(9)", call, BAD);
        }
    }
}
