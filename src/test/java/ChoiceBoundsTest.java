/** Section 3, promises 13 to 21: the lowest, the highest, the first of several, and where a choice turns over. */
public final class ChoiceBoundsTest {
    private static final Check CHECK = new Check("ChoiceBoundsTest");
    private static final int BAD = NoneMinds.BAD, NONE = NoneMinds.NONE;
    private static final String NINE = "g099;g099;g099;g099;g099;g099;g099;g099;g099;";

    public static void main(String[] args) {
        for (int left = 1; left < 64; left++) {
            allAlike(left);
            fairAmong(left);
            mostAmong(left);
        }
        greatest();
        mostTurnsOver();
        fairOfSeveral();
        likedBy();
        championOfSix();
        middle();
        middleOfSeveral();
        struckRound();
        struckTillOne();
        twoOfSeveral();
        twoOfLeft();
        houses();
        waits();
        waitsBySum();
        waitsNone();
        CHECK.finish();
    }

    private static Run run(int promise) {
        return new Run(CHECK, String.valueOf(promise));
    }

    /** Six dishes, of which only those of these bits are left: five can go, as two guests have three vetoes each. */
    private static Run left(int promise, int left, String guests) {
        Run run = run(promise).laid("d6;" + guests + "v3;");
        int vetoes = 0;
        for (int d = 0; d < 6; d++) {
            if ((left >> d & 1) == 0) run.go("veto(" + vetoes++ / 3 + "," + d + ")");
        }
        return run;
    }

    private static int lowest(int bits) {
        return Integer.numberOfTrailingZeros(bits);
    }

    private static int highest(int bits) {
        return 31 - Integer.numberOfLeadingZeros(bits);
    }

    /** All are worth the same, so that only their places choose. */
    private static void allAlike(int left) {
        Run run = left(13, left, "g0555555;g3555555;");
        int low = lowest(left);
        int second = lowest(left & left - 1);
        boolean isOne = Integer.bitCount(left) == 1;
        run.due("most(0)", low).due("most(1)", 10).due("fair(0)", low).due("fair(1)", 5);
        run.due("guest(0, 3)", low).due("guest(1, 2)", 1 << low).due("guest(0, 2)", left).due("middle()", left);
        run.due("champion()", isOne ? low : NONE).due("struck(0)", low).due("struck(1)", low);
        run.due("two(0)", isOne ? NONE : 8 * low + second).due("two(1)", isOne ? NONE : 10);
        run.due("houses(0)", 2).due("ask(9)", NONE).due("wheel(6, 0)", 1).due("wheel(6, 1)", 1);
        for (int d = 0; d < 6; d++) {
            boolean isLeft = (left >> d & 1) == 1;
            run.due("suits(" + d + ")", isLeft ? 3 : BAD).due("waits(" + d + ", 0)", isLeft ? 60 : NONE);
            run.due("beats(" + d + ", " + low + ")", isLeft && d != low ? 50 : BAD);
            run.due("beats(" + low + ", " + d + ")", isLeft && d != low ? 50 : BAD);
            run.due("against(" + d + ", 0)", 0).due("against(" + d + ", 1)", 5);
        }
    }

    /** The least worth is 1, 2, 3, 3, 2, 1 and all together are 7: the one in the middle, then the lowest. */
    private static void fairAmong(int left) {
        Run run = left(14, left, "g0654321;g0123456;");
        int best = lowest(left);
        for (int d = 5; d >= 0; d--) {
            if ((left >> d & 1) == 1 && Math.min(d, 5 - d) >= Math.min(best, 5 - best)) best = d;
        }
        run.due("fair(0)", best).due("fair(1)", 1 + Math.min(best, 5 - best)).due("most(0)", lowest(left));
        run.due("guest(0, 3)", lowest(left)).due("guest(1, 3)", highest(left)).due("most(1)", 7);
        boolean isOne = Integer.bitCount(left) == 1;
        run.due("middle()", isOne ? left : left & ~(1 << lowest(left)) & ~(1 << highest(left)));
        run.due("two(0)", isOne ? NONE : 8 * lowest(left) + highest(left));
    }

    /** Each is worth more than those of lower numbers, to all. */
    private static void mostAmong(int left) {
        Run run = left(13, left, "g0123456;g0234567;");
        int high = highest(left);
        int second = highest(left & ~(1 << high));
        run.due("most(0)", high).due("most(1)", 2 * high + 3).due("fair(0)", high).due("fair(1)", high + 1);
        run.due("champion()", high).due("struck(0)", high).due("guest(1, 3)", high);
        boolean isOne = Integer.bitCount(left) == 1;
        run.due("two(0)", isOne ? NONE : 8 * lowest(left) + high).due("two(1)", isOne ? NONE : 2 * high + 3);
        run.due("middle()", isOne ? left : left & ~(1 << lowest(left)));
        if (!isOne) run.due("beats(" + high + ", " + second + ")", 52).due("beats(" + second + ", " + high + ")", 48);
    }

    private static void greatest() {
        Run run = run(13).laid("d2;" + NINE).due("most(1)", 81).due("fair(1)", 9).due("two(1)", 81).due("houses(0)", 2);
        run.due("suits(0)", 511).due("suits(1)", 511).due("beats(0, 1)", 50).due("beats(1, 0)", 50).due("dish(1, 3)", 81);
        run.due("waits(0, 0)", 0).due("waits(0, 1)", 81).due("champion()", NONE).due("middle()", 3).due("struck(8)", 0);
        Run none = run(13).laid("d2;" + "g000;".repeat(9)).due("most(0)", 0).due("most(1)", 0).due("fair(1)", 0);
        none.due("two(0)", 1).due("two(1)", 0).due("suits(1)", 511).due("waits(1, 0)", 0).due("waits(1, 1)", 0);
        none.due("most(-1)", BAD).due("most(2)", BAD).due("fair(-1)", BAD).due("fair(2)", BAD).due("two(2)", BAD);
    }

    /** As much is not more: the lower one stays till the higher one is worth one more. */
    private static void mostTurnsOver() {
        run(13).laid("d2;g044;g044;").due("most(0)", 0);
        run(13).laid("d2;g044;g045;").due("most(0)", 1).due("most(1)", 9);
        run(13).laid("d2;g045;g054;").due("most(0)", 0).due("most(1)", 9);
        run(13).laid("d3;g0233;g0322;").due("most(0)", 0);
        run(13).laid("d3;g0134;g0323;").due("most(0)", 2).due("most(1)", 7);
        Run run = run(13).laid("d2;g080;g004;g003;h10;").due("most(0)", 0).due("most(1)", 8);
        run.until(9).due("most(0)", 0).until(10).due("most(0)", 0).due("most(1)", 9).until(19).due("most(0)", 0);
        run.until(20).due("most(0)", 1).due("most(1)", 11).go("undo()").due("most(0)", 0);
    }

    /** Of those whose least worth is greatest the one worth most to all together, then the lowest. */
    private static void fairOfSeveral() {
        run(14).laid("d3;g0336;g0336;").due("fair(0)", 2).due("fair(1)", 6);
        run(14).laid("d3;g0343;g0336;").due("fair(0)", 2).due("fair(1)", 3);
        run(14).laid("d3;g0363;g0334;").due("fair(0)", 1).due("fair(1)", 3);
        run(14).laid("d3;g0363;g0336;").due("fair(0)", 1).due("fair(1)", 3);
        run(14).laid("d3;g0633;g0336;").due("fair(0)", 0).due("fair(1)", 3);
        run(14).laid("d3;g0924;g0923;").due("fair(0)", 0).due("most(0)", 0);
        run(14).laid("d2;g019;g020;").due("fair(0)", 0).due("fair(1)", 1).due("most(0)", 1).due("most(1)", 9);
        run(14).laid("d2;g009;g090;").due("fair(0)", 0).due("fair(1)", 0);
        run(14).laid("d2;g019;g091;" + "g019;".repeat(7)).due("fair(0)", 1).due("fair(1)", 1).due("most(0)", 1);
        run(14).laid("d2;g020;" + "g029;".repeat(8)).due("fair(0)", 0).due("fair(1)", 2).due("most(0)", 1).due("most(1)", 72);
        Run run = run(14).laid("d2;g018;g082;h10;").due("fair(0)", 1).due("fair(1)", 2).until(70).due("fair(0)", 1);
        run.due("fair(1)", 9).until(80).due("fair(0)", 0).due("fair(1)", 9);
    }

    /** Nine guests, of whom k like dish 0 more, m like it less and the others like both as much. */
    private static void likedBy() {
        for (int k = 0; k <= 9; k++) {
            for (int m = 0; k + m <= 9; m++) {
                Run run = run(15).laid("d2;" + "g021;".repeat(k) + "g019;".repeat(m) + "g033;".repeat(9 - k - m));
                run.due("beats(0, 1)", 50 + k - m).due("beats(1, 0)", 50 + m - k);
                run.due("champion()", k > m ? 0 : m > k ? 1 : NONE);
                run.due("middle()", (m == 0 ? 1 : 0) + (k == 0 ? 2 : 0));
                run.due("beats(0, 0)", BAD).due("beats(1, 1)", BAD).due("beats(0, 2)", BAD).due("beats(2, 0)", BAD);
            }
        }
    }

    private static void championOfSix() {
        for (int d = 0; d < 6; d++) {
            String best = "111111".substring(0, d) + "2" + "111111".substring(d + 1);
            run(16).laid("d6;g0" + best + ";").due("champion()", d);
            run(16).laid("d6;g0" + best + ";g0111111;g0000000;").due("champion()", d);
            // as many like another one more: none
            int other = (d + 1) % 6;
            String as = "111111".substring(0, other) + "2" + "111111".substring(other + 1);
            run(16).laid("d6;g0" + best + ";g0" + as + ";").due("champion()", NONE);
            run(16).laid("d6;g0" + best + ";g0" + as + ";").go("veto(0," + other + ")").due("champion()", d);
            run(16).laid("d6;g0" + best + ";g0" + as + ";g0" + best + ";").due("champion()", d);
        }
        run(16).laid("d6;g0111111;").due("champion()", NONE);
        run(16).laid("d6;g0000000;g0000000;v3;").go("veto(0,0) veto(0,1) veto(0,2) veto(1,3) veto(1,4)").due("champion()", 5);
        // round and round, till one of the three is gone
        String round = "d3;g0321;g0132;g0213;";
        run(16).laid(round).due("champion()", NONE).go("veto(0,0)").due("champion()", 1);
        run(16).laid(round).go("veto(0,1)").due("champion()", 2).go("undo() veto(0,2)").due("champion()", 0);
        run(16).laid("d2;g089;h10;").due("champion()", 1).until(10).due("champion()", NONE);
    }

    /** Less than each other one: as much as one other is enough to be in. */
    private static void middle() {
        run(17).laid("d2;g012;").due("middle()", 2);
        run(17).laid("d2;g011;").due("middle()", 3);
        run(17).laid("d2;g012;g021;").due("middle()", 0);
        run(17).laid("d2;g012;g022;").due("middle()", 2);
        run(17).laid("d2;g000;").due("middle()", 3);
        run(17).laid("d3;g0011;").due("middle()", 6);
        run(17).laid("d3;g0001;").due("middle()", 7);
        run(17).laid("d3;g0001;").go("veto(0,0)").due("middle()", 4);
        run(17).laid("d3;g0112;g0211;g0121;").due("middle()", 7);
        run(17).laid("d3;g0122;g0212;g0221;").due("middle()", 0);
        run(17).laid("d6;g0999998;g0899999;").due("middle()", 30);
        run(17).laid("d6;" + "g0000000;".repeat(8) + "g0111110;").due("middle()", 31);
        for (int d = 0; d < 3; d++) {
            Run run = run(17).laid("d3;g0123;v3;");
            for (int other = 0; other < 3; other++) if (other != d) run.go("veto(0," + other + ")");
            run.due("middle()", 1 << d);
        }
    }

    private static void middleOfSeveral() {
        Run run = run(17).laid("d3;g0189;h10;").due("middle()", 6).until(70).due("middle()", 6).until(80).due("middle()", 7);
        run.go("undo()").due("middle()", 6);
        run(17).laid("d4;g02011;g01102;").due("middle()", 9).go("veto(0,1)").due("middle()", 9).go("veto(1,2)").due("middle()", 0);
    }

    /** Nine guests, each with one dish that is worth nothing to him; if that is gone, he strikes the highest one. */
    private static void struckRound() {
        StringBuilder guests = new StringBuilder();
        for (int i = 0; i < 9; i++) {
            guests.append("g0").append("555555", 0, i % 6).append('0').append("555555", i % 6 + 1, 6).append(';');
        }
        Run run = run(18).laid("d6;" + guests);
        // from 5 on: 5, 0, 1, 2, and guest 0, whose dish is gone, the 4; from 8 on: 2, 0, 1, then 5, and guest 3 the 3
        run.each("struck(#)", 5, 0, 1, 2, 3, 3, 3, 3, 4, BAD).due("struck(-1)", BAD).due("count(3)", 0);
        // one guest strikes five times, two by turns
        run(18).laid("d6;g0314592;").due("struck(0)", 4).due("struck(1)", BAD);
        run(18).laid("d6;g0333333;").due("struck(0)", 0);
        run(18).laid("d6;g0123333;g0333321;").each("struck(#)", 2, 2, BAD);
        // 0 strikes 1 of two: one is left, and nobody strikes more
        run(18).laid("d2;g021;g012;g012;").each("struck(#)", 0, 1, 1, BAD);
    }

    private static void struckTillOne() {
        Run run = run(18).laid("d3;g0012;g0210;v1;").each("struck(#)", 1, 1).go("veto(0,1)").each("struck(#)", 2, 0);
        run.go("veto(1,0)").each("struck(#)", 2, 2).due("count(3)", 2);
        Run hungry = run(18).laid("d2;g089;h10;").due("struck(0)", 1).until(10).due("struck(0)", 0);
        hungry.go("order(1)").due("struck(0)", 0);
    }

    /** The pairs 0 and 3, 1 and 2 feed all four of them, no other pair does. */
    private static void twoOfSeveral() {
        String text = "d4;g09900;g00099;g09090;g00909;";
        run(19).laid(text).due("two(0)", 3).due("two(1)", 36).due("houses(17)", 1).due("houses(18)", 2);
        run(19).laid(text).go("veto(0,0)").due("two(0)", 10).due("two(1)", 36);
        run(19).laid(text).go("veto(0,3)").due("two(0)", 10).due("two(1)", 36);
        run(19).laid(text).go("veto(0,1)").due("two(0)", 3).due("two(1)", 36);
        run(19).laid(text).go("veto(0,2)").due("two(0)", 3).due("two(1)", 36).go("veto(1,3)").due("two(0)", 1).due("two(1)", 27);
        run(19).laid("d3;g0191;g0119;").due("two(0)", 10).due("two(1)", 18);
        run(19).laid("d3;g0910;g0019;").due("two(0)", 2).due("two(1)", 18);
        run(19).laid("d3;g0900;g0090;").due("two(0)", 1).due("two(1)", 18);
        run(19).laid("d3;g0900;").due("two(0)", 1).due("two(1)", 9);
        run(19).laid("d3;g0009;").due("two(0)", 2).due("two(1)", 9);
    }

    private static void twoOfLeft() {
        for (int a = 0; a < 6; a++) {
            for (int b = a + 1; b < 6; b++) {
                left(19, 1 << a | 1 << b, "g0123456;g0654321;").due("two(0)", 8 * a + b).due("two(1)", b + 1 + 6 - a)
                    .due("houses(" + (b - a - 1) + ")", 1).due("houses(" + (b - a) + ")", 2);
            }
            left(19, 1 << a, "g0123456;g0654321;").due("two(0)", NONE).due("two(1)", NONE).due("two(-1)", BAD)
                .due("two(2)", BAD).due("houses(0)", 2).due("houses(99)", 2).due("houses(100)", BAD).due("houses(-1)", BAD);
        }
    }

    /** By c the two houses are worth exactly as much as one: then it is one. */
    private static void houses() {
        for (int pairs = 1; pairs <= 4; pairs++) {
            Run run = run(20).laid("d2;" + "g090;g009;".repeat(pairs));
            for (int c = 0; c <= 99; c++) run.due("houses(" + c + ")", c < 9 * pairs ? 1 : 2);
            run.due("houses(100)", BAD).due("houses(-1)", BAD);
        }
        run(20).laid("d2;g012;").due("houses(0)", 2).due("houses(1)", 2);
        run(20).laid("d2;g012;g021;").due("houses(0)", 1).due("houses(1)", 2);
        run(20).laid("d2;g089;g098;h10;").due("houses(0)", 1).until(10).due("houses(0)", 2);
    }

    private static void waits() {
        for (int takes : new int[] {1, 20, 60}) {
            for (int shuts : new int[] {1, 20, 59, 60, 90, 99}) {
                for (int hunger : new int[] {1, 7, 60}) {
                    for (int minute = 0; minute <= 99; minute += 3) waits(takes, shuts, hunger, minute);
                }
            }
        }
    }

    private static void waits(int takes, int shuts, int hunger, int minute) {
        int best = NONE;
        int bestWorth = NONE;
        for (int m = 99; m >= minute; m--) {
            int worth = 0;
            for (int told : new int[] {2, 7}) worth += Math.min(9, told + m / hunger);
            if (m + takes > shuts || worth < bestWorth) continue;
            best = m;
            bestWorth = worth;
        }
        Run run = run(21).laid("d2;g027;g077;g009;t0," + takes + ";s" + shuts + ";h" + hunger + ";").until(minute);
        run.due("waits(0, 0)", best).due("waits(0, 1)", bestWorth).due("waits(0, 2)", BAD).due("count(2)", minute);
    }

    private static void waitsBySum() {
        Run run = run(21).laid("d2;g010;g080;h30;t0,1;t1,1;s99;").due("waits(0, 0)", 90).due("waits(0, 1)", 13);
        run.due("waits(1, 0)", 0).due("waits(1, 1)", 0).until(91).due("waits(0, 0)", 91).due("waits(1, 0)", 91);
        run.until(98).due("waits(0, 0)", 98).due("waits(0, 1)", 13).until(99).due("waits(0, 0)", NONE).due("waits(0, 1)", NONE);
        run(21).laid("d2;g018;h49;t0,1;s98;").due("waits(0, 0)", 49).due("waits(0, 1)", 2);
        run(21).laid("d2;g018;h49;t0,1;s99;").due("waits(0, 0)", 98).due("waits(0, 1)", 3);
        run(21).laid("d2;g018;h60;t0,60;s60;").due("waits(0, 0)", 0).due("waits(0, 1)", 1);
        run(21).laid("d2;g018;h60;t0,60;s59;").due("waits(0, 0)", NONE).due("waits(0, 1)", NONE);
    }

    private static void waitsNone() {
        Run run = run(21).laid("d2;g012;g012;t0,5;t1,5;s50;").due("waits(2, 0)", BAD).due("waits(-1, 1)", BAD);
        run.until(45).due("waits(0, 0)", 45).due("order(0)", 50).due("waits(0, 0)", NONE).due("waits(1, 1)", NONE);
        run.due("waits(0, 2)", BAD).due("waits(2, 0)", BAD).go("undo()").due("waits(0, 0)", 45).go("veto(0,0)");
        run.due("waits(0, 0)", NONE).due("waits(0, 1)", NONE).due("waits(0, -1)", BAD).due("waits(1, 0)", 45);
        run.until(46).due("waits(1, 0)", NONE).due("waits(1, 1)", NONE).due("waits(1, 2)", BAD).due("waits(1, -1)", BAD);
    }
}
