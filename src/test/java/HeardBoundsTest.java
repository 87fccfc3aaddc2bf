/** Section 4, promises 22 to 32: what was heard, whom it suits, whom to ask, the wheel, evenings, what is kept. */
public final class HeardBoundsTest {
    private static final Check CHECK = new Check("HeardBoundsTest");
    private static final int BAD = NoneMinds.BAD, NO = NoneMinds.NO, FULL = NoneMinds.FULL, NONE = NoneMinds.NONE;
    private static final String NINE_OF_SIX = "d6;g0055555;g0505555;g0550555;g0555055;g0555505;g0555550;g0123456;"
            + "g0654321;g0999999;v3;h7;";

    public static void main(String[] args) {
        heardEight();
        heardStays();
        mayByWorth();
        mayOfChoosy();
        mayByMinute();
        mayByVetoes();
        mayOfEach();
        suits();
        against();
        ask();
        askOfFew();
        wheel();
        wheelOfOne();
        evening();
        eveningOfNine();
        eveningAtTheEnd();
        eveningOfVetoes();
        eveningChangesNothing();
        keepTwo();
        backToEach();
        count();
        CHECK.finish();
    }

    private static Run run(int promise) {
        return new Run(CHECK, String.valueOf(promise));
    }

    private static void heardEight() {
        Run run = run(22).laid("d2;g012;g012;").due("count(5)", 0).due("forget()", 0);
        for (int round = 0; round < 3; round++) {
            for (int k = 1; k <= 8; k++) run.due("heard(" + k % 2 + ", " + k % 2 + ", 0)", k).due("count(5)", k);
            run.due("heard(0, 0, 1)", FULL).due("heard(1, 1, 0)", FULL).due("heard(2, 0, 0)", BAD).due("heard(0, 2, 0)", BAD);
            run.due("heard(0, 0, 2)", BAD).due("heard(0, 0, -1)", BAD).due("count(5)", 8).due("may(0)", 13).due("may(1)", 5);
            run.due("forget()", 8).due("count(5)", 0).due("may(0)", 15).due("may(1)", 15).due("forget()", 0);
        }
        // the eighth still counts, a ninth does not
        run.go(7, "heard(0,1,0)").due("may(0)", 5).due("heard(0, 1, 1)", 8).due("may(0)", 0).due("forget()", 8);
        run.go(8, "heard(0,1,0)").due("heard(0, 1, 1)", FULL).due("may(0)", 5);
    }

    /** Neither undone, nor kept, nor gone when it is ordered; gone when another text is laid. */
    private static void heardStays() {
        Run run = run(22).laid("d2;g012;g034;").go("heard(0,1,1) pass(1) keep() heard(1,1,1) order(0)").due("heard(0, 0, 0)", 3);
        run.due("undo()", 1).due("count(5)", 3).due("back()", 0).due("count(5)", 3).due("may(0)", 8).due("may(1)", 10);
        run.write("x").due("lay()", NO).due("count(5)", 3).go("wipe()").laid("d2;g012;").due("count(5)", 0).due("may(0)", 15);
    }

    /** Of a dish told w, with one that is worth nothing beside it: the kinds that give it a heart, and those that don't. */
    private static void mayByWorth() {
        for (int w = 0; w <= 9; w++) {
            int gives = (w >= 5 ? 1 : 0) + 2 + (w > 0 ? 8 : 0);
            for (int kind = 0; kind <= 3; kind++) {
                String text = "d2;g" + kind + w + "0;";
                run(24).laid(text).go("heard(0,0,1)").due("may(0)", gives).go("heard(0,0,0)").due("may(0)", 0);
                run(24).laid(text).go("heard(0,0,0)").due("may(0)", 15 - gives);
                run(24).laid(text).go("heard(0,1,0)").due("may(0)", 13).go("heard(0,0,1)").due("may(0)", gives & 13);
                run(24).laid(text).go("heard(0,1,1)").due("may(0)", 2).go("heard(0,0,0)").due("may(0)", 0);
            }
        }
    }

    private static void mayOfChoosy() {
        String text = "d6;g0667677;";
        int[] due = {3, 3, 11, 3, 3, 3};
        for (int d = 0; d < 6; d++) {
            run(24).laid(text).go("heard(0," + d + ",1)").due("may(0)", due[d]);
            run(24).laid(text).go("heard(0," + d + ",0)").due("may(0)", 15 - due[d]);
        }
        run(24).laid("d2;g000;").go("heard(0,0,0) heard(0,1,0)").due("may(0)", 13);
        run(24).laid("d2;g000;").go("heard(0,0,1)").due("may(0)", 2);
        run(24).laid("d2;g011;").go("heard(0,0,1)").due("may(0)", 10).go("heard(0,1,0)").due("may(0)", 8);
        run(24).laid("d2;g055;").go("heard(0,0,1) heard(0,1,1)").due("may(0)", 3);
    }

    /** Worth 4 till minute 9, 5 from 10 on; and the lower one is as much as the other one from 10 on. */
    private static void mayByMinute() {
        String text = "d2;g048;h10;";
        run(24).laid(text).until(9).go("heard(0,0,1)").until(10).due("may(0)", 2).go("forget() heard(0,0,1)").due("may(0)", 3)
            .go("undo()").due("may(0)", 3).until(99).due("may(0)", 3).go("heard(0,0,1)").due("may(0)", 3);
        run(24).laid("d2;g089;h10;").go("heard(0,0,0)").due("may(0)", 12).go("pass(10) heard(0,0,1)").due("may(0)", 8)
            .go("undo()").due("may(0)", 8).go("heard(0,0,1)").due("may(0)", 0);
        run(24).laid("d2;g001;h1;").until(99).go("heard(0,0,1)").due("may(0)", 2).go("heard(0,1,1)").due("may(0)", 2);
    }

    private static void mayByVetoes() {
        String text = "d3;g0987;g0111;v3;";
        Run run = run(24).laid(text).go("veto(1,0) heard(0,0,0)").due("may(0)", 15).go("heard(0,1,1)").due("may(0)", 11);
        run.go("undo()").due("may(0)", 11).go("heard(0,0,0)").due("may(0)", 0).go("forget() heard(0,0,1)").due("may(0)", 11);
        run.go("veto(0,0)").due("may(0)", 11).go("heard(0,0,1)").due("may(0)", 0).due("forget()", 2).due("may(0)", 15);
        // when but one is left, hearts are on that one; when all others are vetoed by him too
        run.go("veto(0,1) heard(0,2,1)").due("may(0)", 11).go("heard(0,1,0)").due("may(0)", 11).go("undo() undo()").due("may(0)", 11);
    }

    /** What was heard of one tells nothing of another, the first and the last of nine. */
    private static void mayOfEach() {
        for (int i = 0; i < 9; i++) {
            Run run = run(24).laid("d2;" + "g092;".repeat(9)).go("heard(" + i + ",1,1)");
            for (int other = 0; other < 9; other++) run.due("may(" + other + ")", other == i ? 2 : 15);
            run.due("may(9)", BAD).due("may(-1)", BAD);
        }
    }

    private static void suits() {
        for (int i = 0; i < 9; i++) {
            String guests = "g066;".repeat(i) + "g065;" + "g066;".repeat(8 - i);
            run(25).laid("d2;" + guests).due("suits(0)", 511).due("suits(1)", 511 - (1 << i));
            String others = "g060;".repeat(i);
            if (i < 8) run(25).laid("d2;g099;" + others + "g066;" + "g060;".repeat(7 - i)).due("suits(1)", 1 + (2 << i));
        }
        run(25).laid("d2;g005;").due("most(0)", 1).due("suits(0)", 0).due("suits(1)", 1).due("suits(2)", BAD).due("suits(-1)", BAD);
        Run run = run(25).laid("d3;g0987;g0789;g0111;").due("suits(0)", 7).due("suits(1)", 6).due("suits(2)", 6);
        run.go("veto(2,0)").due("suits(0)", BAD).due("suits(1)", 7).due("suits(2)", 6).go("veto(0,1)");
        run.due("suits(0)", BAD).due("suits(1)", BAD).due("suits(2)", 7).go("order(2)").due("suits(2)", 7);
    }

    private static void against() {
        for (int i = 0; i < 9; i++) {
            Run run = run(26).laid("d2;" + "g090;".repeat(i) + "g080;" + "g090;".repeat(8 - i) + "h1;");
            run.due("against(0, 0)", i).due("against(0, 1)", 8).due("against(1, 0)", 0).due("against(1, 1)", 0);
            run.go("veto(0,0)").due("against(0, 0)", i).due("against(0, 1)", 8).until(1).due("against(0, 0)", 0)
                .due("against(0, 1)", 9).due("against(1, 1)", 0);
        }
        run(26).laid("d2;g030;g020;g020;g030;").due("against(0, 0)", 1).due("against(0, 1)", 2);
        run(26).laid("d2;g090;").due("against(0, 0)", 0).due("against(0, 1)", 9).due("against(2, 0)", BAD).due("against(0, 2)", BAD);
    }

    /** Without guest k it would be the other dish, without each other one it stays. */
    private static void ask() {
        for (int k = 0; k < 9; k++) {
            Run run = run(27).laid("d2;" + "g001;".repeat(k) + "g090;" + "g001;".repeat(8 - k)).due("most(0)", 0);
            for (int n = 1; n <= 9; n++) run.due("ask(" + n + ")", n > k ? k : NONE);
            run.due("ask(0)", BAD).due("ask(10)", BAD).go("veto(0,1)");
            for (int n = 1; n <= 9; n++) run.due("ask(" + n + ")", NONE);
            run.due("ask(0)", BAD).due("ask(10)", BAD);
        }
    }

    /** Fewer guests than n: all of them; of several the lowest; as much is no other dish, if that is the higher one. */
    private static void askOfFew() {
        run(27).laid("d2;g090;g001;g001;").due("ask(1)", 0).due("ask(9)", 0);
        run(27).laid("d2;g010;g060;g005;").due("ask(1)", NONE).due("ask(2)", 1).due("ask(9)", 1);
        run(27).laid("d2;g010;g060;g007;").due("ask(1)", 0).due("ask(2)", 0).due("ask(9)", 0);
        run(27).laid("d2;g010;g060;g006;").due("ask(1)", NONE).due("ask(2)", 1);
        run(27).laid("d2;g060;g001;g006;").due("most(0)", 1).due("ask(1)", NONE).due("ask(2)", 1).due("ask(3)", 1);
        run(27).laid("d2;g060;g060;g001;").due("ask(3)", NONE).due("ask(9)", NONE);
        run(27).laid("d2;g012;").due("ask(1)", 0).due("ask(9)", 0);
        run(27).laid("d2;g021;").due("ask(1)", NONE).due("ask(9)", NONE);
        Run run = run(27).laid("d2;g040;g003;g001;h10;").due("ask(9)", 0).until(10).due("most(0)", 1).due("ask(1)", NONE)
            .due("ask(2)", 1).due("ask(9)", 1);
        run.go("veto(0,0)").due("ask(9)", NONE);
    }

    private static long power(long base, int exponent) {
        long product = 1;
        for (int k = 0; k < exponent; k++) product *= base;
        return product;
    }

    /** Of so many dishes so many are worth more than 0 to all: one guest of two is enough to be against it. */
    private static void wheel() {
        for (int dishes = 2; dishes <= 6; dishes++) {
            for (int welcome = 0; welcome <= dishes; welcome++) {
                String one = "1".repeat(welcome) + "0".repeat(dishes - welcome);
                Run run = run(28).laid("d" + dishes + ";g0" + "9".repeat(dishes) + ";g0" + one + ";h1;");
                for (int n = 0; n <= 6; n++) wheel(run, n, dishes, welcome);
                run.until(99);
                wheel(run, 6, dishes, welcome);
                run.due("wheel(7, 0)", BAD).due("wheel(-1, 1)", BAD).due("wheel(6, 2)", BAD).due("wheel(0, -1)", BAD);
                if (welcome == 0) continue;
                run.go("veto(0,0)");
                for (int n = 0; n <= 6; n++) wheel(run, n, dishes - 1, welcome - 1);
            }
        }
    }

    private static void wheel(Run run, int n, int dishes, int welcome) {
        long below = power(dishes, n);
        long above = below - power(dishes - welcome, n);
        for (int prime : new int[] {2, 3, 5}) {
            while (above % prime == 0 && below % prime == 0) {
                above /= prime;
                below /= prime;
            }
        }
        run.due("wheel(" + n + ", 0)", (int) above).due("wheel(" + n + ", 1)", (int) below);
    }

    private static void wheelOfOne() {
        Run run = run(28).laid("d2;g010;v1;").due("wheel(0, 0)", 0).due("wheel(0, 1)", 1).go("veto(0,1)");
        run.due("wheel(0, 0)", 0).due("wheel(0, 1)", 1).due("wheel(1, 0)", 1).due("wheel(1, 1)", 1).due("wheel(6, 0)", 1);
        run.go("undo() veto(0,0)").due("wheel(0, 1)", 1).due("wheel(1, 0)", 0).due("wheel(1, 1)", 1).due("wheel(6, 1)", 1);
        String eight = "g011;".repeat(8);
        run(28).laid("d2;" + eight + "g010;").due("wheel(1, 0)", 1).due("wheel(1, 1)", 2);
        run(28).laid("d2;g001;" + eight).due("wheel(6, 0)", 63).due("wheel(6, 1)", 64).go("order(0)").due("wheel(6, 0)", 63);
        run(28).laid("d6;g0111110;").due("wheel(6, 0)", 46655).due("wheel(6, 1)", 46656);
    }

    private static void evenings(Run run, int z, int... dishes) {
        for (int n = 1; n <= dishes.length; n++) run.due("evening(" + z + ", " + n + ", 0)", dishes[n - 1]);
    }

    /** Worked out from the document's words by another program, in another language. */
    private static void evening() {
        Run run = run(29);
        evenings(run, 0, 7, 7, 7, 7, 7, 5, 5, 5, 5, 5, 5, 5, 5, 5, 5, 5, 5, 5, 5, 5);
        evenings(run, 9999, 15, 15, 15, 11, 9, 9, 1, 1, 1, 1, 1, 1, 1, 1, 1, 1, 1, 1, 1, 1);
        run.due("evening(0, 20, 1)", 0).due("evening(9999, 20, 1)", 0).due("evening(9998, 20, 0)", 8).due("evening(9998, 20, 1)", 3);
        run.due("evening(0, 0, 0)", BAD).due("evening(0, 21, 0)", BAD).due("evening(-1, 1, 0)", BAD).due("evening(10000, 1, 0)", BAD);
        run.due("evening(0, 1, -1)", BAD).due("evening(0, 1, 2)", BAD);
    }

    private static void eveningOfNine() {
        Run run = run(29).laid(NINE_OF_SIX);
        evenings(run, 0, 62, 30, 30, 30, 30, 28, 28, 28, 28, 28, 28, 28, 28, 12, 4, 4, 4, 4, 4, 4);
        evenings(run, 1, 63, 63, 63, 63, 63, 63, 59, 27, 27, 25, 9, 8, 8, 8, 8, 8, 8, 8, 8, 8);
        evenings(run, 4999, 63, 31, 15, 7, 7, 7, 5, 5, 1, 1, 1, 1, 1, 1, 1, 1, 1, 1, 1, 1);
        evenings(run, 9998, 31, 15, 15, 14, 14, 6, 6, 2, 2, 2, 2, 2, 2, 2, 2, 2, 2, 2, 2, 2);
        evenings(run, 9999, 63, 63, 63, 31, 30, 30, 22, 6, 6, 6, 6, 6, 2, 2, 2, 2, 2, 2, 2, 2);
        run.due("evening(0, 1, 1)", 1).due("evening(0, 20, 1)", 2).due("evening(1, 9, 1)", 0).due("evening(1, 10, 1)", 3);
        // the twentieth time vetoes one more
        run.due("evening(14, 19, 0)", 29).due("evening(14, 20, 0)", 28).due("evening(40, 19, 1)", 2).due("evening(40, 20, 1)", 3);
        run.due("evening(46, 19, 0)", 18).due("evening(46, 20, 0)", 2).due("evening(64, 19, 1)", 1).due("evening(64, 20, 1)", 0);
    }

    /**
     * By z = 0 it is 1, 4, 5, 5, 4, 5, 1, 5, 2 minutes: at 94 two times go by and end at 99; at 95 the first, the
     * seventh and the ninth, which ends at 99; at 98 the first, at 99 none. The second dish is worth more at 99 alone.
     */
    private static void eveningAtTheEnd() {
        String text = "d2;g090;g002;g002;h33;v0;";
        int[][] first = {{94, 2}, {95, 9}, {98, 1}, {99, 1}, {80, 5}, {79, 7}};
        for (int[] row : first) {
            Run run = run(29).laid(text).until(row[0]);
            boolean isLate = row[0] == 99;
            for (int n = 1; n <= 20; n++) run.due("evening(0, " + n + ", 1)", isLate || n >= row[1] ? 1 : 0);
            run.due("count(2)", row[0]);
        }
        // where no minute can go by, dishes are vetoed all the same
        run(29).laid("d3;g0942;g1366;g3550;h60;v2;").until(99).due("evening(0, 1, 0)", 3).due("evening(0, 2, 0)", 1);
    }

    /** By z = 0 the first draw is 0, the second one 2592 by 8: guest 0 of one, two, three would veto in both. */
    private static void eveningOfVetoes() {
        for (int v = 0; v <= 3; v++) {
            Run run = run(29).laid("d6;g0123456;v" + v + ";").due("evening(0, 1, 0)", v < 1 ? 63 : 62);
            run.due("evening(0, 2, 0)", v < 1 ? 63 : v < 2 ? 62 : 60);
        }
        run(29).laid("d6;g0123456;v2;").go("veto(0,5)").due("evening(0, 2, 0)", 30).go("veto(0,4)").due("evening(0, 2, 0)", 15);
        run(29).laid("d6;g0123456;v3;").go("veto(0,5) veto(0,4)").due("evening(0, 2, 0)", 14);
        run(29).laid("d2;g012;v3;").due("evening(0, 1, 0)", 2).due("evening(0, 2, 0)", 2).due("evening(0, 20, 0)", 2);
        run(29).laid("d2;g021;v3;").go("veto(0,0)").due("evening(0, 1, 0)", 2).due("evening(0, 1, 1)", 1);
        run(29).laid("d3;g0111;v1;").due("evening(0, 1, 0)", 3).due("evening(0, 1, 1)", 0);
        run(29).laid("d3;g0001;v3;").due("evening(0, 1, 0)", 5).due("evening(0, 2, 0)", 4).due("evening(0, 2, 1)", 2);
    }

    private static void eveningChangesNothing() {
        Run run = run(29).laid(NINE_OF_SIX).go("pass(3) veto(1,1) keep() heard(0,0,1) pass(2)");
        for (int z = 0; z < 60; z++) run.ask("evening(" + z * 166 + ", 20, " + z % 2 + ")");
        run.each("count(#)", 9, 6, 5, 1, NONE, 1, 3, 1, NINE_OF_SIX.length()).each("guest(#, 1)", 3, 2, 3, 3, 3, 3, 3, 3, 3);
        run.go("order(0)").due("evening(0, 1, 0)", NO).due("evening(9999, 20, 1)", NO).due("evening(0, 21, 0)", BAD);
        run.due("evening(10000, 1, 0)", BAD).due("evening(0, 1, 2)", BAD).due("undo()", 3).due("undo()", 2).due("count(2)", 3);
    }

    private static void keepTwo() {
        Run run = run(30).laid("d3;g0123;g0321;v2;").due("back()", NO).due("count(7)", 0).due("keep()", 1).due("count(7)", 1);
        run.go("pass(5)").due("keep()", 2).due("count(7)", 2).go("pass(6)").due("keep()", FULL).due("count(7)", 2);
        run.due("count(6)", 2).due("count(2)", 11).due("back()", 1).due("count(2)", 5).due("count(6)", 0).due("undo()", NO);
        run.go("pass(7)").due("keep()", 2).due("keep()", FULL).go("pass(1)").due("back()", 1).due("count(2)", 12);
        run.due("back()", 0).due("count(2)", 0).due("back()", NO).due("count(2)", 0).due("count(7)", 0);
        run.go("pass(8)").due("back()", NO).due("count(2)", 8).due("count(6)", 1).due("undo()", 0).due("keep()", 1);
        run.due("lay()", 2).due("count(7)", 0).due("back()", NO).due("keep()", 1).due("keep()", 2).due("keep()", FULL);
    }

    /** The minute, the vetoes with who has how many left, what is ordered: as they were, whatever came in between. */
    private static void backToEach() {
        Run run = run(31).laid("d4;g01234;g04321;v2;s99;t0,1;t3,60;");
        run.go("pass(9) veto(0,1) veto(1,2) order(0) keep() undo() veto(0,3) keep() pass(30)");
        run.due("order(0)", 40).due("back()", 1).each("count(#)", 2, 4, 9, 3, NONE, 0, 0, 1, 35);
        run.each("guest(#, 1)", 0, 1).each("dish(#, 1)", 0, 1, 1, 1).due("veto(1, 0)", NO).due("pass(1)", 10).due("count(6)", 1);
        run.due("back()", 0).each("count(#)", 2, 4, 9, 2, 0, 0, 0, 0, 35).each("guest(#, 1)", 1, 1).each("dish(#, 1)", 0, 1, 1, 0);
        run.due("pass(1)", NO).due("veto(0, 3)", NO).due("order(3)", NO).due("undo()", NO).due("back()", NO);
        run.due("keep()", 1).due("back()", 0).due("count(4)", 0);
        Run again = run(31).laid("d2;g012;").go("keep() keep() pass(1)").due("back()", 1).due("undo()", NO).go("pass(2)");
        again.due("back()", 0).due("count(2)", 0).due("undo()", NO).due("back()", NO);
    }

    /** The least and the most of each. */
    private static void count() {
        run(32).each("count(#)", 6, 4, 0, 0, NONE, 0, 0, 0, 0, BAD).due("count(-1)", BAD);
        Run least = run(32).laid("d2;g000;").go("wipe()").each("count(#)", 1, 2, 0, 0, NONE, 0, 0, 0, 0, BAD);
        least.go("order(0)").due("count(4)", 0).due("count(6)", 1);
        Run most = run(32).laid("d6;" + "g0123456;".repeat(9) + "v3;s99;t5,1;" + "v3;".repeat(34));
        most.go("veto(0,0) veto(1,1) veto(8,2) veto(7,3) veto(0,4) pass(30) pass(30) pass(30) pass(8)").go(8, "heard(8,5,1)");
        most.go("keep() keep()").due("order(5)", 99).each("count(#)", 9, 6, 98, 5, 5, 8, 8, 2, 198, BAD).write(";;");
        most.due("count(8)", 200).due("write(59)", FULL).due("heard(0, 0, 0)", FULL).due("keep()", FULL).due("order(5)", NO);
        most.each("count(#)", 9, 6, 98, 5, 5, 8, 8, 2, 200, BAD).due("count(-1)", BAD);
    }
}
