/** Section 2, promises 6 to 12: where minutes and worth end, on what hearts are, what can still be done and undone. */
public final class ActsBoundsTest {
    private static final Check CHECK = new Check("ActsBoundsTest");
    private static final int NO = NoneMinds.NO, NONE = NoneMinds.NONE;

    public static void main(String[] args) {
        minutes();
        worth();
        worthOfNothing();
        heartsOfFrank();
        heartsOfOthers();
        heartsOfChoosy();
        heartsOfVetoed();
        numberOfVetoes();
        vetoesOfEach();
        lastDish();
        whyNoVeto();
        order();
        whyNoOrder();
        nothingMore();
        undoOfEach();
        undoEight();
        undoOfEight();
        undoAndAnew();
        CHECK.finish();
    }

    private static Run run(int promise) {
        return new Run(CHECK, String.valueOf(promise));
    }

    /** From each minute on as many minutes as can be told. */
    private static void minutes() {
        for (int minute = 0; minute <= 99; minute++) {
            for (int n = 1; n <= 30; n++) {
                Run run = run(9).until(minute).due("pass(" + n + ")", minute + n <= 99 ? minute + n : NO);
                run.due("count(2)", minute + n <= 99 ? minute + n : minute);
            }
        }
        Run run = run(9).until(99).due("pass(1)", NO).due("pass(30)", NO).due("pass(0)", NoneMinds.BAD);
        run.due("pass(31)", NoneMinds.BAD).due("count(2)", 99).due("count(6)", 4).due("undo()", 3).due("count(2)", 90);
        run.due("pass(10)", NO).due("pass(9)", 99).due("count(6)", 4);
    }

    /** A dish of each figure from 0 to 9, at each minute; hunger by adding, minute by minute. */
    private static void worth() {
        for (int hunger : new int[] {1, 2, 3, 10, 11, 20, 33, 34, 49, 50, 51, 59, 60}) {
            int more = 0;
            for (int minute = 0; minute <= 99; minute++) {
                if (minute > 0 && minute % hunger == 0) more++;
                Run run = run(8).laid("d5;g001234;g056789;h" + hunger + ";").until(minute);
                for (int told = 0; told <= 9; told++) {
                    int due = told == 0 ? 0 : Math.min(9, told + more);
                    run.due("worth(" + told / 5 + ", " + told % 5 + ")", due);
                }
            }
        }
    }

    private static void worthOfNothing() {
        Run run = run(8).laid("d2;g001;g100;h1;").until(99);
        run.due("worth(0, 0)", 0).due("worth(0, 1)", 9).due("worth(1, 1)", 0).due("dish(0, 3)", 0).due("dish(1, 3)", 9);
        run(8).laid("d2;g018;h1;").until(1).due("worth(0, 0)", 2).due("worth(0, 1)", 9).until(2).due("worth(0, 1)", 9);
        run(8).laid("d2;g099;h1;").until(1).due("worth(0, 0)", 9).until(99).due("worth(0, 1)", 9);
        run(8).laid("d2;g018;h60;").until(59).due("worth(0, 0)", 1).until(60).due("worth(0, 0)", 2).due("worth(0, 1)", 9)
            .until(99).due("worth(0, 0)", 2);
        // it is by the minute that it is, so that what is undone takes its hunger back
        run(8).laid("d2;g018;h10;").go("pass(10)").due("worth(0, 0)", 2).go("undo()").due("worth(0, 0)", 1);
    }

    /** FRANK: 4 is none yet, 5 is one; by what it is worth now. */
    private static void heartsOfFrank() {
        run(6).laid("d6;g0012345;g0567890;").due("guest(0, 2)", 32).due("guest(1, 2)", 31).each("dish(#, 2)", 1, 1, 1, 1, 1, 1);
        Run run = run(6).laid("d6;g0012345;h10;").until(9).due("guest(0, 2)", 32).until(10).due("guest(0, 2)", 48);
        run.until(20).due("guest(0, 2)", 56).until(40).due("guest(0, 2)", 62).until(99).due("guest(0, 2)", 62);
        run.due("dish(0, 2)", 0).due("dish(1, 2)", 1);
        run(6).laid("d2;g000;").due("guest(0, 2)", 0).until(99).due("guest(0, 2)", 0);
    }

    /** POLITE: on all, be they worth 0 too; SILENT: on none, be they worth 9. */
    private static void heartsOfOthers() {
        run(6).laid("d6;g1000000;g2999999;").due("guest(0, 2)", 63).due("guest(1, 2)", 0).each("dish(#, 2)", 1, 1, 1, 1, 1, 1);
        run(6).laid("d2;g109;g290;h1;").until(99).due("guest(0, 2)", 3).due("guest(1, 2)", 0).each("dish(#, 2)", 1, 1);
        run(7).laid("d2;" + "g100;".repeat(9)).due("dish(0, 2)", 9).due("dish(1, 2)", 9);
        run(7).laid("d2;" + "g299;".repeat(9)).due("dish(0, 2)", 0).due("dish(1, 2)", 0).due("dish(0, 3)", 81);
    }

    /** CHOOSY: of several the lowest, also where they come to be as much at 9; on none, if that is 0. */
    private static void heartsOfChoosy() {
        run(6).laid("d6;g3000001;g3111111;g3000000;g3123454;g3999998;")
            .due("guest(0, 2)", 32).due("guest(1, 2)", 1).due("guest(2, 2)", 0).due("guest(3, 2)", 16).due("guest(4, 2)", 1)
            .each("dish(#, 2)", 2, 0, 0, 0, 1, 1).each("guest(#, 3)", 5, 0, 0, 4, 0);
        Run run = run(6).laid("d3;g3789;h10;").due("guest(0, 2)", 4).until(10).due("guest(0, 2)", 2).due("guest(0, 3)", 1);
        run.until(20).due("guest(0, 2)", 1).due("guest(0, 3)", 0);
        run(6).laid("d3;g3005;v1;").go("veto(0,2)").due("guest(0, 2)", 0).due("guest(0, 3)", 0);
        run(6).laid("d3;g3015;v1;").go("veto(0,2)").due("guest(0, 2)", 2).due("guest(0, 3)", 1);
        run(6).laid("d3;g3005;v1;").go("veto(0,0)").due("guest(0, 2)", 4).go("undo() veto(0,2)").due("guest(0, 2)", 0);
    }

    private static void heartsOfVetoed() {
        Run run = run(6).laid("d3;g0999;g1999;g2999;g3999;v3;");
        run.each("guest(#, 2)", 7, 7, 0, 1).each("dish(#, 2)", 3, 2, 2).go("veto(2,0)");
        run.each("guest(#, 2)", 6, 6, 0, 2).each("dish(#, 2)", 0, 3, 2).each("guest(#, 3)", 1, 1, 1, 1).go("veto(2,2)");
        run.each("guest(#, 2)", 2, 2, 0, 2).each("dish(#, 2)", 0, 3, 0).due("dish(0, 3)", 36).due("worth(0, 0)", 9);
        run.go("order(1)").each("guest(#, 2)", 2, 2, 0, 2).each("dish(#, 2)", 0, 3, 0);
    }

    /** A guest who may veto v times, and one time more; of six dishes, so that none is the last one. */
    private static void numberOfVetoes() {
        for (int v = 0; v <= 3; v++) {
            for (int i = 0; i < 9; i++) {
                Run run = run(10).laid("d6;" + "g0111111;".repeat(9) + "v" + v + ";");
                for (int k = 0; k < v; k++) {
                    run.due("guest(" + i + ", 1)", v - k).due("veto(" + i + ", " + k + ")", 5 - k);
                }
                run.due("guest(" + i + ", 1)", 0).due("veto(" + i + ", 4)", NO).due("guest(" + i + ", 1)", 0);
                run.due("count(3)", v).due("count(6)", v).due("guest(" + (i + 1) % 9 + ", 1)", v);
                if (v > 0) run.due("veto(" + (i + 1) % 9 + ", 4)", 5 - v).due("guest(" + (i + 1) % 9 + ", 1)", v - 1);
            }
        }
    }

    /** The vetoes of one are not the vetoes of another, whoever they are. */
    private static void vetoesOfEach() {
        Run run = run(10).laid("d6;" + "g0111111;".repeat(9) + "v1;");
        run.go("veto(8,0) veto(0,1) veto(4,2)").each("guest(#, 1)", 0, 1, 1, 1, 0, 1, 1, 1, 0);
        run.due("veto(8, 3)", NO).due("veto(0, 3)", NO).due("veto(4, 3)", NO).due("veto(7, 3)", 2).due("veto(1, 5)", 1);
        run.each("guest(#, 1)", 0, 0, 1, 1, 0, 1, 1, 0, 0).due("count(3)", 5).due("veto(2, 4)", NO);
        run.each("dish(#, 1)", 1, 1, 1, 1, 0, 1);
    }

    /** Of n dishes n - 1 can be vetoed. */
    private static void lastDish() {
        for (int n = 2; n <= 6; n++) {
            for (int last = 0; last < n; last++) {
                Run run = run(10).laid("d" + n + ";" + ("g0" + "1".repeat(n) + ";").repeat(2) + "v3;");
                int left = n;
                for (int d = 0; d < n; d++) {
                    if (d != last) run.due("veto(" + left % 2 + ", " + d + ")", --left);
                }
                run.due("count(3)", n - 1).due("guest(0, 1)", 3 - n / 2).due("veto(0, " + last + ")", NO);
                run.due("veto(1, " + last + ")", NO).due("count(3)", n - 1).due("dish(" + last + ", 1)", 0);
                run.due("most(0)", last).due("order(" + last + ")", 20);
            }
        }
    }

    /** Each reason by itself, nothing else being in the way. */
    private static void whyNoVeto() {
        String text = "d3;g0123;g0123;v1;";
        run(10).laid(text).go("veto(0,1)").due("veto(1, 1)", NO).due("count(3)", 1).due("guest(1, 1)", 1).due("veto(1, 0)", 1);
        run(10).laid(text).go("veto(0,1)").due("veto(0, 0)", NO).due("count(3)", 1).due("veto(1, 0)", 1);
        run(10).laid(text + "v2;").go("veto(0,1) veto(1,0)").due("veto(0, 2)", NO).due("guest(0, 1)", 1).due("count(3)", 2);
        run(10).laid(text).go("order(1)").due("veto(0, 0)", NO).due("veto(0, 1)", NO).due("count(3)", 0).go("undo()")
            .due("veto(0, 0)", 2);
        run(10).laid(text + "v0;").due("veto(0, 0)", NO).due("count(3)", 0);
        run(10).laid(text).until(99).due("veto(0, 0)", 2).due("veto(1, 1)", 1);
    }

    /** In time is: minute and what it takes are no more than where the kitchen shuts. */
    private static void order() {
        for (int takes : new int[] {1, 2, 20, 59, 60}) {
            for (int shuts : new int[] {1, 2, 20, 59, 60, 61, 98, 99}) {
                for (int minute = 0; minute <= 99; minute++) {
                    boolean isSo = minute + takes <= shuts;
                    Run run = run(11).laid("d2;g012;t1," + takes + ";s" + shuts + ";").until(minute);
                    run.due("order(1)", isSo ? minute + takes : NO).due("count(4)", isSo ? 1 : NONE);
                    run.due("order(1)", NO).due("count(2)", minute);
                }
            }
        }
        run(11).laid("d2;g012;t0,1;s99;").until(98).due("order(0)", 99).go("undo()").until(99).due("order(0)", NO);
        run(11).laid("d2;g012;t0,1;s1;").due("order(0)", 1).go("undo()").until(1).due("order(0)", NO);
        run(11).laid("d2;g012;t0,60;t1,2;s1;").due("order(0)", NO).due("order(1)", NO).due("count(4)", NONE);
    }

    private static void whyNoOrder() {
        String text = "d6;g0123456;v3;t5,1;t0,60;s60;";
        run(11).laid(text).due("order(0)", 60).due("count(4)", 0).due("order(5)", NO).due("count(4)", 0).due("undo()", 0);
        run(11).laid(text).due("order(5)", 1).due("count(4)", 5).due("order(5)", NO).due("order(0)", NO).due("count(6)", 1);
        run(11).laid(text).go("veto(0,5)").due("order(5)", NO).due("count(4)", NONE).due("order(4)", 20).due("count(4)", 4);
        run(11).laid(text).go("veto(0,4)").due("order(5)", 1).due("count(4)", 5);
        run(11).laid(text).until(1).due("order(0)", NO).due("count(4)", NONE).due("order(1)", 21);
    }

    /** Nothing more when it is ordered, be it dish 0, and all again when that is undone. */
    private static void nothingMore() {
        for (int d = 0; d < 4; d++) {
            Run run = run(11).go("pass(7)").due("order(" + d + ")", 7 + new int[] {30, 20, 45, 20}[d]).due("count(4)", d);
            run.due("pass(1)", NO).due("veto(0, 0)", NO).due("veto(0, 3)", NO).each("order(#)", NO, NO, NO, NO);
            run.due("count(2)", 7).due("count(3)", 0).due("count(4)", d).due("count(6)", 2).due("evening(0, 1, 0)", NO);
            run.each("waits(#, 0)", NONE, NONE, NONE, NONE).due("heard(0, 0, 1)", 1).due("keep()", 1);
            run.due("undo()", 1).due("count(4)", NONE).due("pass(1)", 8).due("veto(0, 3)", 3).due("order(0)", 38);
        }
    }

    private static void undoOfEach() {
        String text = "d3;g0123;g0321;v2;";
        Run run = run(12).laid(text).due("undo()", NO).due("count(6)", 0);
        run.go("pass(30)").due("count(6)", 1).due("undo()", 0).due("count(2)", 0).due("undo()", NO).due("count(2)", 0);
        run.go("veto(1,2)").due("count(6)", 1).due("undo()", 0).due("dish(2, 1)", 0).due("guest(1, 1)", 2).due("undo()", NO);
        run.go("order(2)").due("count(6)", 1).due("undo()", 0).due("count(4)", NONE).due("undo()", NO);
        run.go("keep() heard(0,0,1)").due("count(6)", 0).due("undo()", NO).due("count(7)", 1).due("count(5)", 1);
        run.go("pass(1) veto(0,0) pass(2) veto(1,1) pass(3) order(2)").due("count(6)", 6);
        run.due("undo()", 5).each("count(#)", 2, 3, 6, 2, NONE, 1, 5, 1);
        run.due("undo()", 4).each("count(#)", 2, 3, 3, 2, NONE, 1, 4, 1);
        run.due("undo()", 3).each("count(#)", 2, 3, 3, 1, NONE, 1, 3, 1).due("dish(0, 1)", 1).due("guest(1, 1)", 2);
        run.due("undo()", 2).each("count(#)", 2, 3, 1, 1, NONE, 1, 2, 1).due("guest(0, 1)", 1);
        run.due("undo()", 1).each("count(#)", 2, 3, 1, 0, NONE, 1, 1, 1).due("guest(0, 1)", 2);
        run.due("undo()", 0).each("count(#)", 2, 3, 0, 0, NONE, 1, 0, 1).due("undo()", NO);
    }

    /** Eight can be undone, after seven, eight, nine and many acts. */
    private static void undoEight() {
        for (int acts : new int[] {7, 8, 9, 10, 16, 17, 40, 99}) {
            Run run = run(12);
            for (int k = 1; k <= acts; k++) run.due("pass(1)", k).due("count(6)", Math.min(k, 8));
            int undone = Math.min(acts, 8);
            for (int k = 1; k <= undone; k++) run.due("undo()", undone - k).due("count(2)", acts - k);
            run.due("undo()", NO).due("count(2)", acts - undone).due("count(6)", 0);
        }
    }

    /** Of three vetoes, an order undone and minutes the ninth one back is beyond what can be undone. */
    private static void undoOfEight() {
        Run run = run(12).laid("d6;g0123456;g0123456;v3;");
        run.go("veto(0,5) veto(0,4) pass(1) veto(1,0) pass(1) veto(1,1) pass(1) pass(1) veto(0,2)").due("count(6)", 8);
        run.due("order(3)", 24).due("count(6)", 8);
        for (int k = 7; k >= 0; k--) run.due("undo()", k);
        run.due("undo()", NO).due("count(2)", 0).due("count(3)", 2).due("guest(0, 1)", 1).due("guest(1, 1)", 3);
        run.each("dish(#, 1)", 0, 0, 0, 0, 1, 1).due("veto(0, 0)", 3).due("veto(0, 1)", NO);
    }

    private static void undoAndAnew() {
        Run run = run(12).go("pass(1) pass(2) pass(3)").due("undo()", 2).due("pass(4)", 7).due("count(6)", 3);
        run.due("undo()", 2).due("count(2)", 3).due("undo()", 1).due("count(2)", 1).due("undo()", 0).due("undo()", NO);
        // what is refused cannot be undone
        run.due("pass(31)", NoneMinds.BAD).due("veto(0, 4)", NoneMinds.BAD).due("order(-1)", NoneMinds.BAD).due("undo()", NO);
        run.go("pass(30) pass(30) pass(30)").due("pass(10)", NO).due("order(0)", NO).due("count(6)", 3);
        run.go("veto(0,0)").due("veto(0, 1)", NO).due("veto(1, 0)", NO).due("count(6)", 4).due("undo()", 3).due("undo()", 2);
        run.due("count(2)", 60).due("count(3)", 0);
    }
}
