import java.util.regex.Matcher;
import java.util.regex.Pattern;

/**
 * One object and the calls on it, told as in the document: due("veto(0, 1)", 3). It counts them, as nothing is
 * promised behind the 512th.
 */
final class Run {
    static final int LIMIT = 512;
    static final String[] CALLS = {"write", "wipe", "fault", "lay", "guest", "dish", "worth", "pass", "veto",
        "order", "undo", "most", "fair", "beats", "champion", "middle", "struck", "two", "houses", "waits", "heard",
        "forget", "may", "suits", "against", "ask", "wheel", "evening", "keep", "back", "count"};

    private static final Pattern CALL = Pattern.compile("\\s*(\\w+)\\(([-0-9, ]*)\\)\\s*");
    private final Check check;
    private final String name;
    private final NoneMinds x = new NoneMinds();
    private int calls;

    Run(Check check, String name) {
        this.check = check;
        this.name = name;
    }

    /** The text is written behind what stands there. */
    Run write(String text) {
        for (int k = 0; k < text.length(); k++) call("write", text.charAt(k));
        return this;
    }

    Run laid(String text) {
        write(text);
        if (call("lay") < 1) throw new IllegalStateException("not laid: " + text);
        return this;
    }

    /** Calls that only lead to where a test begins; each must be answered with a number from 0 on. */
    Run go(String told) {
        Matcher m = CALL.matcher(told);
        int place = 0;
        while (m.find()) {
            if (m.start() != place) throw new IllegalArgumentException(told);
            place = m.end();
            int answer = call(m.group(1), numbers(m.group(2)));
            if (answer < 0) throw new IllegalStateException(name + ": " + m.group() + " answered " + answer);
        }
        if (place != told.length()) throw new IllegalArgumentException(told);
        return this;
    }

    /** As many calls as are told. */
    Run go(int times, String told) {
        for (int k = 0; k < times; k++) go(told);
        return this;
    }

    /** Minutes go by till it is this one. */
    Run until(int minute) {
        int rest = minute - call("count", 2);
        for (; rest > 30; rest -= 30) call("pass", 30);
        if (rest > 0) call("pass", rest);
        return due("count(2)", minute);
    }

    /** Calls that change nothing, till only so many can be made. */
    Run leaving(int left) {
        if (calls > LIMIT - left) throw new IllegalStateException(name + " has made " + calls + " calls");
        while (calls < LIMIT - left) call("count", 2);
        return this;
    }

    Run due(String told, int want) {
        check.due(name + ": " + told + ", call " + (calls + 1), ask(told), want);
        return this;
    }

    /** The same call with 0, 1, 2, .. in the place of the sign #. */
    Run each(String told, int... wants) {
        for (int k = 0; k < wants.length; k++) due(told.replace("#", String.valueOf(k)), wants[k]);
        return this;
    }

    int ask(String told) {
        Matcher m = CALL.matcher(told);
        if (!m.matches()) throw new IllegalArgumentException(told);
        return call(m.group(1), numbers(m.group(2)));
    }

    int call(String call, int... a) {
        calls++;
        if (calls > LIMIT) throw new IllegalStateException(name + " goes on behind the last call");
        return call(x, call, a);
    }

    int calls() {
        return calls;
    }

    private static int[] numbers(String told) {
        if (told.isBlank()) return new int[0];
        String[] parts = told.split(",");
        int[] numbers = new int[parts.length];
        for (int k = 0; k < parts.length; k++) numbers[k] = Integer.parseInt(parts[k].trim());
        return numbers;
    }

    /** All that can be asked without a change, so that two states can be told apart. */
    String look() {
        StringBuilder all = new StringBuilder(counts());
        int guests = call("count", 0);
        int dishes = call("count", 1);
        for (int i = 0; i < guests; i++) {
            for (int what = 0; what <= 3; what++) tell(all, "guest", i, what);
            for (int d = 0; d < dishes; d++) tell(all, "worth", i, d);
            tell(all, "may", i);
            tell(all, "struck", i);
        }
        for (int d = 0; d < dishes; d++) {
            for (int what = 0; what <= 3; what++) tell(all, "dish", d, what);
            for (int what = 0; what <= 1; what++) tell(all, "waits", d, what);
            tell(all, "suits", d);
        }
        for (String name : new String[] {"most", "fair", "two"}) {
            for (int what = 0; what <= 1; what++) tell(all, name, what);
        }
        for (String name : new String[] {"champion", "middle", "fault"}) tell(all, name);
        return all.toString();
    }

    /** What is hidden: what can be undone and what is kept, the text by its fault and by what it lays. */
    String unwind() {
        StringBuilder all = new StringBuilder(vetoes());
        for (int k = 0; k < 9; k++) tell(all, "undo").append(vetoes());
        for (int k = 0; k < 3; k++) tell(all, "back").append(vetoes());
        tell(all, "fault");
        tell(all, "lay").append(vetoes());
        tell(all, "wipe");
        return all.toString();
    }

    private String counts() {
        StringBuilder all = new StringBuilder();
        for (int what = 0; what <= 8; what++) tell(all, "count", what);
        return all.toString();
    }

    private String vetoes() {
        StringBuilder all = new StringBuilder(counts());
        int guests = call("count", 0);
        int dishes = call("count", 1);
        for (int i = 0; i < guests; i++) tell(all, "guest", i, 1);
        for (int d = 0; d < dishes; d++) tell(all, "dish", d, 1);
        return all.toString();
    }

    private StringBuilder tell(StringBuilder all, String call, int... a) {
        return all.append(call.charAt(0)).append(call(call, a)).append(' ');
    }

    static int call(NoneMinds x, String name, int... a) {
        switch (name) {
            case "write": return x.write(a[0]);
            case "wipe": return x.wipe();
            case "fault": return x.fault();
            case "lay": return x.lay();
            case "guest": return x.guest(a[0], a[1]);
            case "dish": return x.dish(a[0], a[1]);
            case "worth": return x.worth(a[0], a[1]);
            case "pass": return x.pass(a[0]);
            case "veto": return x.veto(a[0], a[1]);
            case "order": return x.order(a[0]);
            case "undo": return x.undo();
            case "most": return x.most(a[0]);
            case "fair": return x.fair(a[0]);
            case "beats": return x.beats(a[0], a[1]);
            case "champion": return x.champion();
            case "middle": return x.middle();
            case "struck": return x.struck(a[0]);
            case "two": return x.two(a[0]);
            case "houses": return x.houses(a[0]);
            case "waits": return x.waits(a[0], a[1]);
            default: return callMore(x, name, a);
        }
    }

    private static int callMore(NoneMinds x, String name, int[] a) {
        switch (name) {
            case "heard": return x.heard(a[0], a[1], a[2]);
            case "forget": return x.forget();
            case "may": return x.may(a[0]);
            case "suits": return x.suits(a[0]);
            case "against": return x.against(a[0], a[1]);
            case "ask": return x.ask(a[0]);
            case "wheel": return x.wheel(a[0], a[1]);
            case "evening": return x.evening(a[0], a[1], a[2]);
            case "keep": return x.keep();
            case "back": return x.back();
            case "count": return x.count(a[0]);
            default: throw new IllegalArgumentException(name);
        }
    }
}
