/** What the tests share: it prints every call whose answer is not the one that is due, and ends with 1 then. */
final class Check {
    private final String name;
    private int calls;
    private int wrong;

    Check(String name) {
        this.name = name;
    }

    void due(String call, long got, long want) {
        calls++;
        if (got == want) return;
        wrong++;
        if (wrong <= 50) System.out.println(name + ": " + call + " answered " + got + ", due is " + want);
    }

    void holds(String what, boolean so) {
        due(what, so ? 1 : 0, 1);
    }

    int wrong() {
        return wrong;
    }

    void finish() {
        System.out.println(name + ": " + calls + " looked at, " + wrong + " wrong");
        if (wrong != 0 || calls == 0) System.exit(1);
    }

    static void write(NoneMinds x, String text) {
        for (int k = 0; k < text.length(); k++) x.write(text.charAt(k));
    }

    /** A new object on which a text is laid. */
    static NoneMinds laid(String text) {
        NoneMinds x = new NoneMinds();
        write(x, text);
        if (x.lay() < 1) throw new IllegalStateException("not laid: " + text);
        return x;
    }

    /** All that can be asked without a change, so that two states can be told apart. */
    static String look(NoneMinds x) {
        StringBuilder all = new StringBuilder();
        for (int what = 0; what <= 8; what++) all.append(x.count(what)).append(' ');
        for (int i = 0; i < x.count(0); i++) {
            for (int what = 0; what <= 3; what++) all.append(x.guest(i, what)).append(' ');
            for (int d = 0; d < x.count(1); d++) all.append(x.worth(i, d)).append(' ');
            all.append(x.may(i)).append(' ').append(x.struck(i)).append(' ');
        }
        for (int d = 0; d < x.count(1); d++) {
            for (int what = 0; what <= 3; what++) all.append(x.dish(d, what)).append(' ');
            all.append(x.waits(d, 0)).append(' ').append(x.waits(d, 1)).append(' ');
        }
        all.append(x.fault()).append(' ').append(x.most(0)).append(' ').append(x.most(1));
        return all.toString();
    }
}
