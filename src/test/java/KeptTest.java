/** Promises 30 to 32: tables kept, and how many there are of what. */
public final class KeptTest {
    private static final Check CHECK = new Check("KeptTest");
    private static final String THREE = "d3;g0942;g1366;g3550;h10;v2;";

    public static void main(String[] args) {
        keep();
        back();
        backOfVetoes();
        count();
        CHECK.finish();
    }

    private static void keep() {
        NoneMinds x = Check.laid(THREE);
        CHECK.due("30: keep()", x.keep(), 1);
        x.pass(5);
        x.order(0);
        CHECK.due("30: keep() when ordered", x.keep(), 2);
        x.undo();
        CHECK.due("30: keep(), a third", x.keep(), NoneMinds.FULL);
        CHECK.due("30: count(7)", x.count(7), 2);
        CHECK.due("31: back(), the third was not kept", x.back(), 1);
        CHECK.due("31: count(4)", x.count(4), 0);
        CHECK.due("30: keep() anew", x.keep(), 2);
    }

    private static void back() {
        NoneMinds x = Check.laid(THREE);
        x.pass(5);
        CHECK.due("31: back() of nothing", x.back(), NoneMinds.NO);
        CHECK.due("31: count(6) behind a refusal", x.count(6), 1);
        x.keep();
        x.pass(6);
        x.heard(0, 0, 1);
        x.order(1);
        x.keep();
        x.undo();
        x.pass(1);
        CHECK.due("31: back(), as kept last", x.back(), 1);
        CHECK.due("31: count(2)", x.count(2), 11);
        CHECK.due("31: count(4)", x.count(4), 1);
        CHECK.due("31: count(6), nothing is undone then", x.count(6), 0);
        CHECK.due("31: undo()", x.undo(), NoneMinds.NO);
        CHECK.due("31: pass(1), ordered", x.pass(1), NoneMinds.NO);
        CHECK.due("31: back()", x.back(), 0);
        CHECK.due("31: count(2)", x.count(2), 5);
        CHECK.due("31: count(4)", x.count(4), NoneMinds.NONE);
        CHECK.due("31: what was heard stays", x.count(5), 1);
        CHECK.due("31: back() of nothing", x.back(), NoneMinds.NO);
        CHECK.due("31: count(2)", x.count(2), 5);
        CHECK.due("31: pass(1)", x.pass(1), 6);
        CHECK.due("31: undo()", x.undo(), 0);
    }

    private static void backOfVetoes() {
        NoneMinds x = Check.laid(THREE);
        x.veto(1, 2);
        x.keep();
        x.veto(1, 0);
        CHECK.due("31: guest(1, 1)", x.guest(1, 1), 0);
        CHECK.due("31: back()", x.back(), 0);
        CHECK.due("31: guest(1, 1) as kept", x.guest(1, 1), 1);
        CHECK.due("31: guest(0, 1) as kept", x.guest(0, 1), 2);
        CHECK.due("31: dish(2, 1) as kept", x.dish(2, 1), 1);
        CHECK.due("31: dish(0, 1) as kept", x.dish(0, 1), 0);
        CHECK.due("31: count(3)", x.count(3), 1);
        x.keep();
        x.pass(3);
        x.pass(4);
        x.undo();
        CHECK.due("31: undo() goes on behind keep()", x.count(6), 1);
        CHECK.due("31: what is kept stays as it was", x.back(), 0);
        CHECK.due("31: count(2)", x.count(2), 0);
    }

    private static void count() {
        NoneMinds x = new NoneMinds();
        Check.write(x, "d5;g012345;g112345;");
        CHECK.due("32: count(0) ahead of lay()", x.count(0), 6);
        CHECK.due("32: count(1) ahead of lay()", x.count(1), 4);
        CHECK.due("32: count(8)", x.count(8), 19);
        x.lay();
        x.pass(9);
        x.veto(0, 1);
        x.veto(1, 4);
        x.heard(0, 0, 1);
        x.keep();
        x.order(3);
        x.write('x');
        int[] due = {2, 5, 9, 2, 3, 1, 4, 1, 20};
        for (int what = 0; what < due.length; what++) CHECK.due("32: count(" + what + ")", x.count(what), due[what]);
        for (int what : new int[] {-1, 9, Integer.MIN_VALUE, Integer.MAX_VALUE}) {
            CHECK.due("32: count(" + what + ")", x.count(what), NoneMinds.BAD);
        }
    }
}
