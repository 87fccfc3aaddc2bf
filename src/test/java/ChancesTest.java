/** Promises 28 and 29: how the wheel is useful, evenings by draws. */
public final class ChancesTest {
    private static final Check CHECK = new Check("ChancesTest");
    private static final String THREE = "d3;g0942;g1366;g3550;h10;v2;";

    public static void main(String[] args) {
        wheel();
        wheelOfSix();
        wheelRefused();
        evening();
        eveningByMinutes();
        eveningNearTheEnd();
        eveningByVetoes();
        eveningOfLargeDraws();
        eveningRefused();
        CHECK.finish();
    }

    private static void wheel(NoneMinds x, int n, int above, int below) {
        CHECK.due("28: wheel(" + n + ", 0)", x.wheel(n, 0), above);
        CHECK.due("28: wheel(" + n + ", 1)", x.wheel(n, 1), below);
    }

    private static void wheel() {
        NoneMinds x = Check.laid(THREE);
        wheel(x, 0, 0, 1);
        wheel(x, 1, 2, 3);
        wheel(x, 2, 8, 9);
        wheel(x, 6, 728, 729);
        x.pass(30);
        wheel(x, 1, 2, 3);
        x.veto(0, 0);
        wheel(x, 1, 1, 2);
        wheel(x, 5, 31, 32);
        x.veto(0, 1);
        wheel(x, 0, 0, 1);
        wheel(x, 6, 0, 1);
        NoneMinds all = Check.laid("d3;g0111;g0999;");
        wheel(all, 0, 0, 1);
        wheel(all, 1, 1, 1);
        wheel(all, 6, 1, 1);
    }

    private static void wheelOfSix() {
        NoneMinds one = Check.laid("d6;g0100000;");
        wheel(one, 1, 1, 6);
        wheel(one, 2, 11, 36);
        wheel(one, 6, 46656 - 15625, 46656);
        NoneMinds four = Check.laid("d6;g0111100;g0111110;");
        wheel(four, 1, 2, 3);
        wheel(four, 3, 26, 27);
        NoneMinds half = Check.laid("d6;g0111000;");
        wheel(half, 6, 63, 64);
        NoneMinds apart = Check.laid("d2;g010;g001;");
        wheel(apart, 3, 0, 1);
    }

    private static void wheelRefused() {
        NoneMinds x = Check.laid(THREE);
        int[][] bad = {{-1, 0}, {7, 0}, {1, 2}, {1, -1}, {7, 1}, {Integer.MAX_VALUE, 0}, {Integer.MIN_VALUE, 1}};
        for (int[] a : bad) CHECK.due("28: wheel(" + a[0] + ", " + a[1] + ")", x.wheel(a[0], a[1]), NoneMinds.BAD);
        x.order(0);
        wheel(x, 1, 2, 3);
    }

    private static void evening(NoneMinds x, int z, int n, int dishes, int most) {
        CHECK.due("29: evening(" + z + ", " + n + ", 0)", x.evening(z, n, 0), dishes);
        CHECK.due("29: evening(" + z + ", " + n + ", 1)", x.evening(z, n, 1), most);
    }

    /**
     * For z = 0 the draws are 0 (1 squared), 20743 (6152 squared is 41487), 5149 (12303: 10299), 18739 (18454:
     * 37479): minutes 1, 4, 5, 5; by 8 cut 0, 2592, 643, 2342; by 128 cut 0, 162, 40, 146, so that the first two
     * draws alone may veto.
     */
    private static void evening() {
        NoneMinds x = Check.laid(THREE);
        String before = Check.look(x);
        evening(x, 0, 1, 3, 0);
        evening(x, 0, 2, 1, 0);
        evening(x, 0, 3, 1, 0);
        CHECK.holds("29: nothing is changed", before.equals(Check.look(x)));
        CHECK.due("29: undo()", x.undo(), NoneMinds.NO);
        NoneMinds one = Check.laid("d3;g0942;g1366;g3550;h10;v1;");
        evening(one, 0, 1, 3, 0);
        evening(one, 0, 2, 3, 0);
        NoneMinds none = Check.laid("d3;g0942;g1366;g3550;h10;v0;");
        evening(none, 0, 20, 7, 0);
        NoneMinds lastOne = Check.laid("d2;g021;v3;");
        evening(lastOne, 0, 1, 1, 0);
        evening(lastOne, 0, 20, 1, 0);
        NoneMinds highest = Check.laid("d4;g03222;");
        evening(highest, 0, 1, 7, 0);
        NoneMinds left = Check.laid("d4;g03222;g09999;");
        left.veto(1, 3);
        evening(left, 0, 1, 3, 0);
    }

    /** Worth is 9 and 4; the second one grows by 2 each 4 minutes, and is worth more from minute 12 on. */
    private static void eveningByMinutes() {
        NoneMinds x = Check.laid("d2;g090;g002;g002;h4;v0;");
        evening(x, 0, 3, 3, 0);
        evening(x, 0, 4, 3, 1);
        x.pass(1);
        evening(x, 0, 2, 3, 0);
        evening(x, 0, 3, 3, 0);
        x.pass(1);
        evening(x, 0, 3, 3, 1);
        // minutes go by ahead of the veto: at 1 both are worth 9, and the highest goes
        NoneMinds y = Check.laid("d2;g089;h1;v1;");
        evening(y, 0, 1, 1, 0);
    }

    /** The second one is worth more at minute 99 alone. */
    private static void eveningNearTheEnd() {
        String text = "d2;g090;g002;g002;h33;v0;";
        int[] minutes = {94, 95, 98, 99};
        int[][] most = {{0, 1, 1}, {0, 0, 0}, {1, 1, 1}, {1, 1, 1}};
        for (int k = 0; k < minutes.length; k++) {
            NoneMinds x = Check.laid(text);
            for (int n = 0; n < 3; n++) x.pass(30);
            x.pass(minutes[k] - 90);
            for (int n = 1; n <= 3; n++) evening(x, 0, n, 3, most[k][n - 1]);
        }
    }

    private static void eveningByVetoes() {
        NoneMinds x = Check.laid("d4;g01234;v1;");
        evening(x, 0, 1, 14, 3);
        evening(x, 0, 2, 14, 3);
        x.veto(0, 3);
        evening(x, 0, 1, 7, 2);
        NoneMinds y = Check.laid("d4;g01234;v2;");
        y.veto(0, 3);
        evening(y, 0, 2, 6, 2);
        NoneMinds z = Check.laid("d4;g01234;v3;");
        evening(z, 0, 2, 12, 3);
        // 20743 by 8 is 2592: guest 0 of two, of three and of nine; of five it is guest 2, of seven also 2
        NoneMinds five = Check.laid("d3;g0123;g0111;g0321;g0111;g0111;v1;");
        evening(five, 0, 1, 6, 1);
        evening(five, 0, 2, 2, 1);
    }

    /** z = 9999: x is 79182082, its square is 6269802109854724, that modulo 65521 is done in long. */
    private static void eveningOfLargeDraws() {
        NoneMinds x = new NoneMinds();
        for (int z : new int[] {9999, 9998, 5000, 271, 77}) {
            for (int n : new int[] {1, 7, 20}) {
                Model model = new Model();
                evening(x, z, n, model.call("evening", z, n, 0), model.call("evening", z, n, 1));
            }
        }
    }

    private static void eveningRefused() {
        NoneMinds x = Check.laid(THREE);
        int[][] bad = {{-1, 1, 0}, {10000, 1, 0}, {0, 0, 0}, {0, 21, 0}, {0, 1, 2}, {0, 1, -1}, {Integer.MIN_VALUE, 1, 0}};
        for (int round = 0; round < 2; round++) {
            for (int[] a : bad) {
                CHECK.due("29: evening(" + a[0] + ", " + a[1] + ", " + a[2] + ")", x.evening(a[0], a[1], a[2]), NoneMinds.BAD);
            }
            x.order(0);
        }
        CHECK.due("29: evening(0, 1, 0), ordered", x.evening(0, 1, 0), NoneMinds.NO);
        CHECK.due("29: evening(0, 1, 1), ordered", x.evening(0, 1, 1), NoneMinds.NO);
        x.undo();
        CHECK.due("29: evening(0, 1, 0), undone", x.evening(0, 1, 0), 3);
    }
}
