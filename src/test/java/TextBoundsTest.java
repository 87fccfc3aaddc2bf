/** Section 1, promises 2 to 5: how many letters, dishes, guests and figures, and which numbers an item may tell. */
public final class TextBoundsTest {
    private static final Check CHECK = new Check("TextBoundsTest");
    /** Fills a text to 200 letters: 66 of them are 198. */
    private static final String THREE_LETTERS = "v1;";

    public static void main(String[] args) {
        letters();
        fullText();
        fullTextLaid();
        lastPlaces();
        emptyText();
        firstLetters();
        lettersInside();
        dishNumbers();
        dishesAhead();
        figures();
        guests();
        minuteNumbers();
        otherNumbers();
        lastOneCounts();
        withoutItems();
        laidOfGuests();
        laidAndWritten();
        CHECK.finish();
    }

    private static Run run(int promise) {
        return new Run(CHECK, String.valueOf(promise));
    }

    /** The fault of a text, and that it is laid only without one; a text that is not laid leaves the first table. */
    private static void fault(String text, int place) {
        Run run = new Run(CHECK, "4: " + text).write(text).due("fault()", place);
        boolean isLaid = place == NoneMinds.NONE && text.contains("g");
        if (isLaid) run.due("lay()", text.split("g", -1).length - 1);
        else run.due("lay()", NoneMinds.NO).due("count(0)", 6).due("count(1)", 4).due("most(1)", 35);
        run.due("count(8)", text.length()).due("fault()", place);
    }

    private static void fault(String text, boolean isSo) {
        fault(text, isSo ? NoneMinds.NONE : 0);
    }

    private static void letters() {
        Run run = run(2);
        for (int letter = 32; letter <= 126; letter++) run.due("write(" + letter + ")", letter - 31);
        for (int letter : new int[] {31, 127, 10, 13, 0, -1, 128, 255, 256 + 59, Integer.MIN_VALUE, Integer.MAX_VALUE}) {
            run.due("write(" + letter + ")", NoneMinds.BAD).due("count(8)", 95);
        }
        run.due("write(32)", 96).due("wipe()", 96);
    }

    private static void fullText() {
        Run run = run(2);
        for (int k = 1; k <= 198; k++) run.call("write", 'v');
        run.due("count(8)", 198).due("write(118)", 199).due("write(118)", 200).due("write(118)", NoneMinds.FULL);
        run.due("write(32)", NoneMinds.FULL).due("write(126)", NoneMinds.FULL);
        run.due("write(31)", NoneMinds.BAD).due("write(127)", NoneMinds.BAD).due("count(8)", 200).due("fault()", 0);
        run.due("wipe()", 200).due("count(8)", 0).due("write(118)", 1).due("count(8)", 1).due("wipe()", 1);
    }

    private static void fullTextLaid() {
        String text = "d2;g012;" + THREE_LETTERS.repeat(63) + "v3;";
        Run run = run(5).write(text).due("count(8)", 200).due("fault()", NoneMinds.NONE);
        run.due("write(120)", NoneMinds.FULL).due("fault()", NoneMinds.NONE).due("lay()", 1).due("guest(0, 1)", 3);
        run.due("count(8)", 200).due("write(59)", NoneMinds.FULL).due("lay()", 1).due("wipe()", 200);
        run.due("guest(0, 1)", 3).due("count(0)", 1).due("lay()", NoneMinds.NO);
        // as much as a text can tell: nine guests, six dishes, and all of the others
        String wide = "d6;" + "g3987654;".repeat(9) + "t0,60;t1,59;t2,58;t3,57;t4,56;t5,55;v3;s99;h60;" + "v2;".repeat(22);
        new Run(CHECK, "5: " + wide.length() + " letters").write(wide).due("lay()", 9).due("guest(8, 1)", 2)
            .due("worth(8, 5)", 4).due("dish(5, 0)", 55).due("dish(0, 0)", 60).due("most(1)", 81);
    }

    /** The item that is not so begins at the 198th, the 199th, the last letter. */
    private static void lastPlaces() {
        String most = THREE_LETTERS.repeat(65);
        fault(most + "v1;s2", 198);
        fault(most + "s10;v", 199);
        fault(most + "s10;;", 199);
        fault(most + "s10;x", 199);
        fault(most + "s10; ", 199);
        fault(most + "v1;v", 198);
        fault(most + "s2;s", 198);
        fault(most + "v1;s;", 198);
        fault(most + "v1;", NoneMinds.NONE);
        fault(most + "s10;", NoneMinds.NONE);
        fault(most + "v4;v1", 195);
        fault(most + "s2;s3", 198);
        fault(most + "t0,5;", NoneMinds.NONE);
        fault(most + "t0,0;", 195);
        fault("x" + most, 0);
    }

    private static void emptyText() {
        Run run = run(4).due("count(8)", 0).due("fault()", NoneMinds.NONE).due("wipe()", 0).due("lay()", NoneMinds.NO);
        run.due("count(0)", 6).due("fault()", NoneMinds.NONE).due("write(120)", 1).due("fault()", 0).due("wipe()", 1);
        run.due("fault()", NoneMinds.NONE).due("lay()", NoneMinds.NO).due("wipe()", 0);
    }

    /** Of all letters only d, g, t, v, s, h begin an item, whatever comes behind. */
    private static void firstLetters() {
        for (char letter = 32; letter <= 126; letter++) {
            fault(letter + "3;", "dvsh".indexOf(letter) >= 0);
            fault(letter + "3,3;", letter == 't');
            fault(letter + "30;", "sh".indexOf(letter) >= 0);
            fault(letter + ";", false);
            fault(letter + "01234;", letter == 'g');
            if (letter != 'g') fault("s5;" + letter + "1234;", 3);
        }
    }

    /** Each letter in each place of an item: only the one that is due there is taken. */
    private static void lettersInside() {
        for (char letter = 32; letter <= 126; letter++) {
            boolean isFigure = letter >= '0' && letter <= '9';
            fault("d" + letter + ";", letter >= '2' && letter <= '6');
            fault("v" + letter + ";", letter >= '0' && letter <= '3');
            fault("s" + letter + ";", letter >= '1' && letter <= '9');
            fault("h" + letter + ";", letter >= '1' && letter <= '9');
            fault("s4" + letter + ";", isFigure ? NoneMinds.NONE : letter == ';' ? 3 : 0);
            fault("v2" + letter, letter == ';');
            fault("g" + letter + "1234;", letter >= '0' && letter <= '3');
            fault("g0" + letter + "234;", isFigure);
            fault("g0123" + letter + ";", isFigure);
            fault("g01234" + letter, letter == ';');
            fault("t" + letter + ",5;", letter >= '0' && letter <= '3');
            fault("t0" + letter + "5;", letter == ',');
            fault("t0," + letter + ";", letter >= '1' && letter <= '9');
            fault("t0,5" + letter, letter == ';');
            fault("v2;" + letter + "2;", "vsh".indexOf(letter) >= 0 ? NoneMinds.NONE : 3);
        }
    }

    private static String two(int number) {
        return (number < 10 ? "0" : "") + number;
    }

    private static void dishNumbers() {
        for (int n = 0; n <= 99; n++) {
            boolean isSo = n >= 2 && n <= 6;
            fault("d" + n + ";", isSo);
            fault("d" + two(n) + ";", isSo);
            fault("d0" + two(n) + ";", false);
            fault("d" + n, false);
            if (isSo) run(5).write("d" + two(n) + ";g0" + "1".repeat(n) + ";").due("lay()", 1).due("count(1)", n);
        }
        fault("d-2;", false);
        fault("d+2;", false);
        fault("d;", false);
        fault("d 2;", false);
        fault("d2,;", false);
    }

    /** No other item is ahead of a d, but a d. */
    private static void dishesAhead() {
        for (String item : new String[] {"g01234;", "t0,5;", "v1;", "s5;", "h5;"}) {
            fault(item + "d4;", item.length());
            fault("d4;" + item + "d4;", 3 + item.length());
            fault("d4;" + item, NoneMinds.NONE);
            fault("d5;d4;" + item, NoneMinds.NONE);
        }
        fault("d2;d3;d4;d5;d6;", NoneMinds.NONE);
        fault("d2;d3;d4;d5;d7;", 12);
        fault("d6;".repeat(66), NoneMinds.NONE);
        run(5).laid("d6;d2;g012;").due("count(1)", 2).due("worth(0, 2)", NoneMinds.BAD);
        run(5).laid("d2;d6;g0123456;").due("count(1)", 6).due("worth(0, 5)", 6);
        fault("d6;d2;g0123456;", 6);
        fault("d2;d6;g012;", 6);
        fault("d6;d2;t2,5;", 6);
        fault("d2;d6;t5,5;", NoneMinds.NONE);
    }

    /** A guest has a figure for each dish, no more and no fewer. */
    private static void figures() {
        for (int n = 2; n <= 6; n++) {
            for (int figures = 0; figures <= 8; figures++) {
                String item = "g1" + "9".repeat(figures) + ";";
                fault("d" + n + ";" + item, figures == n ? NoneMinds.NONE : 3);
                if (n == 4) fault(item, figures == 4);
            }
        }
        for (int figure = 0; figure <= 9; figure++) {
            run(8).laid("d2;g0" + figure + "4;").due("worth(0, 0)", figure).due("worth(0, 1)", 4);
            run(8).laid("d6;g044444" + figure + ";").due("worth(0, 5)", figure).due("worth(0, 4)", 4);
            String kind = "g" + figure + "1234;";
            fault(kind, figure <= 3);
            if (figure <= 3) run(6).laid(kind).due("guest(0, 0)", figure);
        }
    }

    private static void guests() {
        for (int n = 2; n <= 6; n++) {
            String item = "g2" + "5".repeat(n) + ";";
            for (int guests = 1; guests <= 9; guests++) {
                fault("d" + n + ";" + item.repeat(guests), NoneMinds.NONE);
            }
            int tenth = 3 + 9 * item.length();
            fault("d" + n + ";" + item.repeat(10), tenth);
            fault("d" + n + ";" + item.repeat(11), tenth);
            fault("d" + n + ";" + item.repeat(9) + "v2;" + item, tenth + 3);
            fault("d" + n + ";" + item.repeat(9) + "v2;", NoneMinds.NONE);
        }
        run(5).laid("d2;" + "g012;".repeat(9)).due("worth(8, 1)", 2).due("worth(9, 1)", NoneMinds.BAD);
    }

    private static void minuteNumbers() {
        for (int n = 0; n <= 99; n++) {
            boolean isSo = n >= 1 && n <= 60;
            fault("t0," + n + ";", isSo);
            fault("t3," + two(n) + ";", isSo);
            fault("t3,0" + two(n) + ";", false);
            if (isSo) run(7).laid("g01234;t3," + two(n) + ";").due("dish(3, 0)", n).due("dish(2, 0)", 20);
            for (int dishes = 2; dishes <= 6; dishes++) {
                fault("d" + dishes + ";t" + n + ",7;", n < dishes ? NoneMinds.NONE : 3);
                fault("d" + dishes + ";t" + two(n) + ",7;", n < dishes ? NoneMinds.NONE : 3);
            }
            fault("t" + n + ",7;", n < 4);
        }
        fault("t000,7;", false);
        fault("t0,100;", false);
        fault("t0,;", false);
        fault("t,7;", false);
        fault("t0;", false);
        fault("t0,7,;", false);
    }

    private static void otherNumbers() {
        for (int n = 0; n <= 99; n++) {
            number("v", n, n <= 3);
            number("s", n, n >= 1);
            number("h", n, n >= 1 && n <= 60);
        }
        for (String letter : new String[] {"v", "s", "h"}) {
            for (String end : new String[] {";", "", "100;", "001;", "1", "1,;", "1,1;", "-1;", "+1;", " 1;", "1 ;", "1;;"}) {
                fault(letter + end, end.equals("1;;") ? 3 : 0);
            }
        }
    }

    private static void number(String letter, int n, boolean isSo) {
        fault(letter + n + ";", isSo);
        fault(letter + two(n) + ";", isSo);
        fault(letter + "0" + two(n) + ";", false);
        boolean isTen = letter.equals("v") ? n == 0 : n >= 1 && n <= (letter.equals("s") ? 9 : 6);
        fault(letter + n + "0;", isTen);
    }

    /** Of several v, s, h, of several t of one dish the last one counts; the first table's are gone. */
    private static void lastOneCounts() {
        Run run = run(5).laid("d2;t0,9;v3;s99;h1;g017;t1,8;t0,60;v0;s61;h60;t0,10;t1,9;v2;s60;h59;");
        run.due("dish(0, 0)", 10).due("dish(1, 0)", 9).due("guest(0, 1)", 2).until(50).due("order(0)", 60).due("undo()", 2);
        run.until(51).due("order(0)", NoneMinds.NO).due("order(1)", 60).due("undo()", 3);
        run.until(52).due("order(1)", NoneMinds.NO).until(58).due("worth(0, 0)", 1).until(59).due("worth(0, 0)", 2);
        run(5).laid("v2;v0;g01234;").due("guest(0, 1)", 0).due("veto(0, 0)", NoneMinds.NO);
        run(5).laid("v0;v03;g01234;").due("guest(0, 1)", 3);
        run(5).laid("t0,60;t0,1;g01234;").due("dish(0, 0)", 1);
        run(5).laid("t0,1;t1,2;t0,60;g01234;").due("dish(0, 0)", 60).due("dish(1, 0)", 2);
    }

    /** 4 dishes, 20 minutes, 1 veto, shut at 90, hunger 20 without an item, and not what was laid before. */
    private static void withoutItems() {
        Run run = run(5).laid("d2;g012;t0,3;t1,4;v3;s30;h5;").go("wipe()").laid("g01234;");
        run.due("count(1)", 4).each("dish(#, 0)", 20, 20, 20, 20).due("guest(0, 1)", 1);
        run.until(19).due("worth(0, 0)", 1).until(20).due("worth(0, 0)", 2).until(39).due("worth(0, 0)", 2);
        run.until(40).due("worth(0, 0)", 3).until(70).due("order(3)", 90).due("undo()", 5);
        run.until(71).due("order(3)", NoneMinds.NO).due("waits(3, 0)", NoneMinds.NONE);
        Run only = run(5).laid("g01234;v3;").due("guest(0, 1)", 3).due("dish(0, 0)", 20).due("waits(0, 0)", 60);
        only.until(70).due("order(0)", 90);
        run(5).laid("g01234;s99;").due("guest(0, 1)", 1).until(79).due("order(0)", 99).due("worth(0, 0)", 4);
        run(5).laid("g01234;h60;").until(70).due("order(0)", 90).due("worth(0, 0)", 2).due("guest(0, 1)", 1);
        run(5).laid("g01234;t1,60;").due("dish(0, 0)", 20).due("dish(1, 0)", 60).until(30).due("order(1)", 90);
        // the first table tells 30 and 45 for two of its dishes
        run(1).each("dish(#, 0)", 30, 20, 45, 20).each("guest(#, 1)", 1, 1, 1, 1, 1, 1);
        run(1).until(45).due("order(2)", 90);
        run(1).until(46).due("order(2)", NoneMinds.NO).due("order(0)", 76);
    }

    private static void laidOfGuests() {
        for (String text : new String[] {"", "d2;", "v1;", "t0,5;s9;h9;", "d6;t5,9;v0;s1;h1;"}) {
            fault(text, NoneMinds.NONE);
            run(5).write(text).due("lay()", NoneMinds.NO).due("count(0)", 6).due("count(1)", 4).due("dish(0, 0)", 30);
        }
        run(5).write("g00000;").due("lay()", 1).due("count(0)", 1);
        run(5).write("g00000").due("lay()", NoneMinds.NO).due("write(59)", 7).due("lay()", 1);
        run(5).write("g00000;").due("lay()", 1).write("g").due("lay()", NoneMinds.NO).due("count(0)", 1)
            .write("11111;").due("count(0)", 1).due("lay()", 2).due("worth(1, 3)", 1);
    }

    /** What is written, wiped or faulty behind lay() changes nothing on the table. */
    private static void laidAndWritten() {
        Run run = run(5).laid("d3;g0942;v2;").go("pass(5) veto(0,2) keep() heard(0,0,1)");
        run.write("g").due("count(0)", 1).due("fault()", 12).due("lay()", NoneMinds.NO).due("wipe()", 13);
        run.write("d2;g012;g034;").due("fault()", NoneMinds.NONE).due("count(0)", 1).due("count(1)", 3);
        run.each("count(#)", 1, 3, 5, 1, NoneMinds.NONE, 1, 2, 1, 13).due("worth(0, 0)", 9).due("guest(0, 1)", 1);
        run.due("lay()", 2).each("count(#)", 2, 2, 0, 0, NoneMinds.NONE, 0, 0, 0, 13).due("worth(1, 1)", 4);
        run.due("undo()", NoneMinds.NO).due("back()", NoneMinds.NO).due("forget()", 0).due("guest(1, 1)", 1);
    }
}
