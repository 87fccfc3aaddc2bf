/** Promises 1 to 8: a new object, the text, its first fault, laying it, and what is told of guests and dishes. */
public final class TablesTest {
    /** FRANK 9 4 2, POLITE 3 6 6, CHOOSY 5 5 0, and a SILENT one. */
    static final String THREE = "d3;g0942;g1366;g3550;";
    private static final Check CHECK = new Check("TablesTest");

    public static void main(String[] args) {
        newObject();
        write();
        wipe();
        faultOfItems();
        faultOfDishes();
        faultOfGuests();
        faultOfMinutes();
        faultOfNumbers();
        firstFault();
        layWithout();
        layWith();
        layAgain();
        layRefused();
        guest();
        dish();
        worth();
        CHECK.finish();
    }

    private static void newObject() {
        NoneMinds x = new NoneMinds();
        int[] counts = {6, 4, 0, 0, NoneMinds.NONE, 0, 0, 0, 0};
        for (int k = 0; k < counts.length; k++) CHECK.due("1: count(" + k + ")", x.count(k), counts[k]);
        String[] told = {"05371", "18806", "22496", "37027", "04444", "09153"};
        for (int i = 0; i < 6; i++) {
            CHECK.due("1: guest(" + i + ", 0)", x.guest(i, 0), told[i].charAt(0) - '0');
            CHECK.due("1: guest(" + i + ", 1)", x.guest(i, 1), 1);
            for (int d = 0; d < 4; d++) {
                CHECK.due("1: worth(" + i + ", " + d + ")", x.worth(i, d), told[i].charAt(1 + d) - '0');
            }
        }
        int[] minutes = {30, 20, 45, 20};
        for (int d = 0; d < 4; d++) CHECK.due("1: dish(" + d + ", 0)", x.dish(d, 0), minutes[d]);
        CHECK.due("1: fault()", x.fault(), NoneMinds.NONE);
        CHECK.due("1: undo()", x.undo(), NoneMinds.NO);
        CHECK.due("1: back()", x.back(), NoneMinds.NO);
        CHECK.due("1: forget()", x.forget(), 0);
        CHECK.due("1: lay() of no text", x.lay(), NoneMinds.NO);
        x.pass(19);
        CHECK.due("1: worth(0, 0) at 19", x.worth(0, 0), 5);
        x.pass(1);
        CHECK.due("1: worth(0, 0) at 20", x.worth(0, 0), 6);
        x.pass(30);
        x.pass(10);
        CHECK.due("1: order(0) at 60", x.order(0), 90);
        x.undo();
        x.pass(1);
        CHECK.due("1: order(0) at 61", x.order(0), NoneMinds.NO);
    }

    private static void write() {
        NoneMinds x = new NoneMinds();
        for (int letter : new int[] {31, 127, 0, -1, 10, Integer.MIN_VALUE, Integer.MAX_VALUE, 32 + 256}) {
            CHECK.due("2: write(" + letter + ")", x.write(letter), NoneMinds.BAD);
        }
        CHECK.due("2: write(32)", x.write(32), 1);
        CHECK.due("2: write(126)", x.write(126), 2);
        for (int k = 3; k <= 200; k++) CHECK.due("2: write(59)", x.write(59), k);
        CHECK.due("2: write(59) behind 200", x.write(59), NoneMinds.FULL);
        CHECK.due("2: write(31) behind 200", x.write(31), NoneMinds.BAD);
        CHECK.due("2: count(8)", x.count(8), 200);
    }

    private static void wipe() {
        NoneMinds x = new NoneMinds();
        CHECK.due("3: wipe() of nothing", x.wipe(), 0);
        Check.write(x, "d9;x");
        CHECK.due("3: wipe()", x.wipe(), 4);
        CHECK.due("3: count(8)", x.count(8), 0);
        CHECK.due("3: fault()", x.fault(), NoneMinds.NONE);
        CHECK.due("3: wipe() again", x.wipe(), 0);
        CHECK.due("3: write(100)", x.write(100), 1);
        for (int k = 0; k < 250; k++) x.write(100);
        CHECK.due("3: wipe() of a full one", x.wipe(), 200);
        CHECK.due("3: count(0)", x.count(0), 6);
    }

    private static void fault(String text, int want) {
        NoneMinds x = new NoneMinds();
        Check.write(x, text);
        CHECK.due("4: fault() of " + text, x.fault(), want);
        CHECK.due("4: fault() of " + text + " again", x.fault(), want);
        CHECK.due("4: count(8) of " + text, x.count(8), text.length());
    }

    private static void noFault(String... texts) {
        for (String text : texts) fault(text, NoneMinds.NONE);
    }

    private static void faultAt(int place, String... texts) {
        for (String text : texts) fault(text, place);
    }

    private static void faultOfItems() {
        noFault("");
        faultAt(0, ";", "x;", " ", "x", "1;", "D2;", " d2;", "G01234;", "d", "g", "t", "v", "s", "h", "k0;", "~1;");
    }

    private static void faultOfDishes() {
        noFault("d2;", "d3;", "d4;", "d5;", "d6;", "d02;", "d06;", "d2;d3;", "d6;d2;d4;");
        faultAt(0, "d1;", "d0;", "d7;", "d9;", "d;", "d2", "d02", "d002;", "d20;", "d2,3;", "d 2;", "d2 ;", "d-2;", "d+2;");
        faultAt(3, "d2;;", "d2;d7;", "v1;d3;", "s9;d3;", "h9;d3;", "d2;d2");
        faultAt(5, "t0,1;d3;");
        faultAt(7, "g01234;d4;");
    }

    private static void faultOfGuests() {
        noFault("g01234;", "g39999;", "g00000;", "d2;g012;", "d2;d3;g0123;", "d6;g2123456;", "d6;g1000000;");
        faultAt(0, "g0123;", "g012345;", "g41234;", "g91234;", "g;", "g0;", "g01234", "g0,1234;", "g0123 ;", "g0-123;");
        faultAt(0, "gg1234;", "g0123g;", "g0123:;", "g0123/;");
        faultAt(3, "d2;g01;", "d2;g0123;", "d2;g01;3;", "d6;g01234;", "d5;g01234;");
        faultAt(6, "d2;d3;g012;");
        noFault("g01234;".repeat(9));
        faultAt(63, "g01234;".repeat(10), "g01234;".repeat(9) + "g");
    }

    private static void faultOfMinutes() {
        noFault("t0,1;", "t0,60;", "t3,5;", "t03,05;", "t0,01;", "t00,60;", "d6;t5,5;", "d2;t1,5;", "t0,5;t0,6;");
        faultAt(0, "t0,0;", "t0,00;", "t0,61;", "t0,99;", "t4,5;", "t9,5;", "t003,5;", "t0,005;", "t0;", "t0,;", "t,5;");
        faultAt(0, "t;", "t0.5;", "t0,5,;", "t0,5", "t0,5,1;", "t 0,5;", "t0, 5;", "t04,5;", "t10,5;", "t0,5g;");
        faultAt(3, "d2;t2,5;", "d6;t6,5;", "d3;t3,5;");
    }

    private static void faultOfNumbers() {
        noFault("v0;", "v1;", "v2;", "v3;", "v03;", "v00;", "v1;v2;");
        faultAt(0, "v4;", "v9;", "v10;", "v003;", "v;", "v3", "v-1;", "v1,1;");
        noFault("s1;", "s99;", "s01;", "s9;", "s10;s20;");
        faultAt(0, "s0;", "s00;", "s100;", "s001;", "s;", "s5", "s-5;", "sx;");
        noFault("h1;", "h60;", "h01;", "h9;", "h59;h1;");
        faultAt(0, "h0;", "h00;", "h61;", "h99;", "h060;", "h;", "h5", "h6 ;");
    }

    private static void firstFault() {
        faultAt(3, "v1;v4;x;", "v1;x;v4;", "v1;;", "d2;q1;d9;");
        faultAt(0, "v4;v1;", "v1v2;", "1;v1;");
        faultAt(6, "v1;s5;h0;", "v1;s5; ", "v1;s5;h5");
        faultAt(8, "d2;g012;ht0,5;", "d2;g012;g01;", "d2;g012;v3");
        faultAt(16, "d2;g012;t1,5;v3;;");
    }

    private static void layWithout() {
        NoneMinds x = Check.laid("g01234;");
        int[] counts = {1, 4, 0, 0, NoneMinds.NONE, 0, 0, 0, 7};
        for (int k = 0; k < counts.length; k++) CHECK.due("5: count(" + k + ")", x.count(k), counts[k]);
        for (int d = 0; d < 4; d++) CHECK.due("5: dish(" + d + ", 0)", x.dish(d, 0), 20);
        CHECK.due("5: guest(0, 1)", x.guest(0, 1), 1);
        x.pass(19);
        CHECK.due("5: worth(0, 0) at 19", x.worth(0, 0), 1);
        x.pass(1);
        CHECK.due("5: worth(0, 0) at 20", x.worth(0, 0), 2);
        CHECK.due("5: waits(0, 0)", x.waits(0, 0), 60);
        x.pass(30);
        x.pass(20);
        CHECK.due("5: order(0) at 70", x.order(0), 90);
        x.undo();
        x.pass(1);
        CHECK.due("5: order(0) at 71", x.order(0), NoneMinds.NO);
    }

    private static void layWith() {
        NoneMinds x = Check.laid("d6;d3;t1,9;v2;s30;h50;g0942;g1366;t1,08;t0,60;v3;s95;h10;g3550;");
        CHECK.due("5: count(0)", x.count(0), 3);
        CHECK.due("5: count(1)", x.count(1), 3);
        int[] minutes = {60, 8, 20};
        for (int d = 0; d < 3; d++) CHECK.due("5: dish(" + d + ", 0)", x.dish(d, 0), minutes[d]);
        CHECK.due("5: guest(2, 1)", x.guest(2, 1), 3);
        CHECK.due("5: guest(2, 0)", x.guest(2, 0), 3);
        x.pass(10);
        CHECK.due("5: worth(1, 0)", x.worth(1, 0), 4);
        x.pass(25);
        CHECK.due("5: order(0) at 35", x.order(0), 95);
    }

    private static void layAgain() {
        NoneMinds x = Check.laid(THREE + "v2;");
        x.pass(5);
        x.veto(0, 1);
        x.keep();
        x.heard(0, 0, 0);
        x.order(0);
        x.keep();
        CHECK.due("5: lay() again", x.lay(), 3);
        int[] counts = {3, 3, 0, 0, NoneMinds.NONE, 0, 0, 0, THREE.length() + 3};
        for (int k = 0; k < counts.length; k++) CHECK.due("5: then count(" + k + ")", x.count(k), counts[k]);
        CHECK.due("5: then guest(0, 1)", x.guest(0, 1), 2);
        CHECK.due("5: then dish(1, 1)", x.dish(1, 1), 0);
        CHECK.due("5: then undo()", x.undo(), NoneMinds.NO);
        CHECK.due("5: then back()", x.back(), NoneMinds.NO);
        CHECK.due("5: then may(0)", x.may(0), 15);
        x.wipe();
        Check.write(x, "d2;g012;");
        CHECK.due("5: lay() of another", x.lay(), 1);
        CHECK.due("5: worth(0, 1)", x.worth(0, 1), 2);
        CHECK.due("5: worth(1, 0)", x.worth(1, 0), NoneMinds.BAD);
        CHECK.due("5: worth(0, 2)", x.worth(0, 2), NoneMinds.BAD);
        x.wipe();
        Check.write(x, "d4;g01234;");
        x.lay();
        CHECK.due("5: minutes of the last text are gone", x.dish(2, 0), 20);
    }

    private static void layRefused() {
        for (String text : new String[] {"", "d3;", "d2;v1;", "g0123;", "g01234;x", "d2;g012;g01;", "g01234"}) {
            NoneMinds x = Check.laid(THREE + "t0,7;s77;h7;");
            x.pass(5);
            x.heard(0, 0, 0);
            x.keep();
            x.veto(2, 0);
            x.wipe();
            Check.write(x, text);
            String before = Check.look(x);
            CHECK.due("5: lay() of " + text, x.lay(), NoneMinds.NO);
            CHECK.holds("5: lay() of " + text + " changes nothing", before.equals(Check.look(x)));
            CHECK.due("5: undo() behind lay() of " + text, x.undo(), 1);
            CHECK.due("5: back() behind lay() of " + text, x.back(), 0);
        }
    }

    private static void guest() {
        NoneMinds x = Check.laid("d3;g0942;g1366;g3550;g2111;g3000;g0554;v2;h10;");
        int[] kinds = {0, 1, 3, 2, 3, 0};
        int[] hearts = {1, 7, 1, 0, 0, 3};
        int[] best = {0, 1, 0, 0, 0, 0};
        for (int i = 0; i < 6; i++) {
            CHECK.due("6: guest(" + i + ", 0)", x.guest(i, 0), kinds[i]);
            CHECK.due("6: guest(" + i + ", 1)", x.guest(i, 1), 2);
            CHECK.due("6: guest(" + i + ", 2)", x.guest(i, 2), hearts[i]);
            CHECK.due("6: guest(" + i + ", 3)", x.guest(i, 3), best[i]);
        }
        x.pass(10);
        CHECK.due("6: a FRANK one's hearts by WORTH now", x.guest(0, 2), 3);
        CHECK.due("6: a FRANK one's hearts by WORTH now", x.guest(5, 2), 7);
        CHECK.due("6: a CHOOSY one has none for what is worth 0", x.guest(4, 2), 0);
        x.veto(1, 0);
        CHECK.due("6: guest(1, 1) behind a veto", x.guest(1, 1), 1);
        CHECK.due("6: guest(0, 1) behind another's veto", x.guest(0, 1), 2);
        int[] then = {2, 6, 2, 0, 0, 6};
        int[] bestThen = {1, 1, 1, 1, 1, 1};
        for (int i = 0; i < 6; i++) {
            CHECK.due("6: guest(" + i + ", 2) behind a veto", x.guest(i, 2), then[i]);
            CHECK.due("6: guest(" + i + ", 3) behind a veto", x.guest(i, 3), bestThen[i]);
        }
        x.veto(1, 1);
        CHECK.due("6: guest(1, 1) behind two", x.guest(1, 1), 0);
        CHECK.due("6: guest(2, 2), what is left is worth 0", x.guest(2, 2), 0);
        CHECK.due("6: guest(2, 3), what is left is worth 0", x.guest(2, 3), 2);
        NoneMinds little = Check.laid("d3;g3011;g0456;g2999;");
        CHECK.due("6: a CHOOSY one has one for what is worth 1", little.guest(0, 2), 2);
        CHECK.due("6: a FRANK one has one for 5, none for 4", little.guest(1, 2), 6);
        CHECK.due("6: a SILENT one has none for 9", little.guest(2, 2), 0);
        for (int what = 0; what <= 3; what++) {
            CHECK.due("6: guest(-1, " + what + ")", x.guest(-1, what), NoneMinds.BAD);
            CHECK.due("6: guest(6, " + what + ")", x.guest(6, what), NoneMinds.BAD);
        }
        CHECK.due("6: guest(0, 4)", x.guest(0, 4), NoneMinds.BAD);
        CHECK.due("6: guest(0, -1)", x.guest(0, -1), NoneMinds.BAD);
    }

    private static void dish() {
        NoneMinds x = Check.laid("d3;g0942;g1366;g3550;t0,10;t2,60;h10;");
        int[][] due = {{10, 0, 3, 17}, {20, 0, 1, 15}, {60, 0, 1, 8}};
        for (int d = 0; d < 3; d++) {
            for (int what = 0; what <= 3; what++) {
                CHECK.due("7: dish(" + d + ", " + what + ")", x.dish(d, what), due[d][what]);
            }
        }
        x.pass(10);
        CHECK.due("7: dish(0, 3) at 10", x.dish(0, 3), 19);
        CHECK.due("7: dish(2, 3) at 10", x.dish(2, 3), 10);
        CHECK.due("7: dish(1, 2) at 10", x.dish(1, 2), 2);
        x.veto(1, 0);
        int[] vetoed = {10, 1, 0, 19};
        for (int what = 0; what <= 3; what++) CHECK.due("7: vetoed dish(0, " + what + ")", x.dish(0, what), vetoed[what]);
        CHECK.due("7: dish(1, 2), the CHOOSY one's heart goes there", x.dish(1, 2), 3);
        for (int what = 0; what <= 3; what++) {
            CHECK.due("7: dish(-1, " + what + ")", x.dish(-1, what), NoneMinds.BAD);
            CHECK.due("7: dish(3, " + what + ")", x.dish(3, what), NoneMinds.BAD);
        }
        CHECK.due("7: dish(0, 4)", x.dish(0, 4), NoneMinds.BAD);
        CHECK.due("7: dish(0, -1)", x.dish(0, -1), NoneMinds.BAD);
    }

    private static void worth() {
        NoneMinds x = Check.laid("d4;g00189;h7;");
        int[][] due = {{0, 0, 1, 8, 9}, {6, 0, 1, 8, 9}, {1, 0, 2, 9, 9}, {6, 0, 2, 9, 9}, {1, 0, 3, 9, 9}, {30, 0, 7, 9, 9}, {12, 0, 9, 9, 9}, {7, 0, 9, 9, 9}};
        for (int[] row : due) {
            if (row[0] > 0) x.pass(row[0]);
            for (int d = 0; d < 4; d++) CHECK.due("8: worth(0, " + d + ") at " + x.count(2), x.worth(0, d), row[1 + d]);
        }
        x.veto(0, 3);
        CHECK.due("8: worth(0, 3) of a vetoed one", x.worth(0, 3), 9);
        CHECK.due("8: worth(-1, 0)", x.worth(-1, 0), NoneMinds.BAD);
        CHECK.due("8: worth(1, 0)", x.worth(1, 0), NoneMinds.BAD);
        CHECK.due("8: worth(0, -1)", x.worth(0, -1), NoneMinds.BAD);
        CHECK.due("8: worth(0, 4)", x.worth(0, 4), NoneMinds.BAD);
        CHECK.due("8: worth(9, 9)", x.worth(9, 9), NoneMinds.BAD);
    }
}
