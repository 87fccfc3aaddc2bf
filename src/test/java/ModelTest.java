import java.util.ArrayList;
import java.util.Arrays;
import java.util.HashMap;
import java.util.List;
import java.util.Map;
import java.util.Random;
import java.util.TreeMap;
import java.util.TreeSet;

/** Runs of 512 calls, the class against the model; and each answer of each call must have come up at least once. */
public final class ModelTest {
    private static final int RUNS = 1500;
    /** Beside the usual ones, the answers that a call is to give at times. */
    private static final Map<String, int[]> REFUSALS = new HashMap<>();

    static {
        int bad = NoneMinds.BAD, no = NoneMinds.NO, full = NoneMinds.FULL, none = NoneMinds.NONE;
        REFUSALS.put("write", new int[] {bad, full});
        REFUSALS.put("fault", new int[] {none});
        REFUSALS.put("lay", new int[] {no});
        for (String name : List.of("guest", "dish", "worth", "most", "fair", "beats", "struck", "houses", "may",
                "suits", "against", "wheel", "count")) REFUSALS.put(name, new int[] {bad});
        for (String name : List.of("pass", "veto", "order", "evening")) REFUSALS.put(name, new int[] {bad, no});
        REFUSALS.put("undo", new int[] {no});
        REFUSALS.put("champion", new int[] {none});
        for (String name : List.of("two", "waits", "ask")) REFUSALS.put(name, new int[] {none, bad});
        REFUSALS.put("heard", new int[] {bad, full});
        REFUSALS.put("keep", new int[] {full});
        REFUSALS.put("back", new int[] {no});
    }

    private final Random random = new Random(20261118);
    private final Check check = new Check("ModelTest");
    private final Map<String, TreeSet<Integer>> answers = new TreeMap<>();

    public static void main(String[] args) {
        new ModelTest().run();
    }

    private void run() {
        for (int run = 0; run < RUNS && check.wrong() == 0; run++) oneRun(run);
        for (String name : Run.CALLS) {
            TreeSet<Integer> seen = answers.getOrDefault(name, new TreeSet<>());
            for (int refusal : REFUSALS.getOrDefault(name, new int[0])) {
                check.holds(name + " has answered " + refusal, seen.contains(refusal));
            }
            check.holds(name + " has answered more than one number", seen.size() > 1);
        }
        check.finish();
    }

    private void oneRun(int run) {
        NoneMinds x = new NoneMinds();
        Model model = new Model();
        int left = 512;
        while (left > 0) {
            int wish = random.nextInt(60);
            if (wish == 0) {
                String text = text();
                left -= text.length() + 2;
                if (left < 0) return;
                same(run, x, model, "wipe");
                for (int k = 0; k < text.length(); k++) same(run, x, model, "write", text.charAt(k));
                same(run, x, model, "lay");
            } else {
                String name = Run.CALLS[random.nextInt(Run.CALLS.length)];
                if (rare(name) && random.nextInt(8) != 0) continue;
                same(run, x, model, name, arguments(name, model));
                left--;
            }
        }
    }

    /** Calls that take away much would otherwise keep the runs near to the beginning. */
    private static boolean rare(String name) {
        return List.of("wipe", "lay", "order", "forget", "back").contains(name);
    }

    private void same(int run, NoneMinds x, Model model, String name, int... a) {
        int want = model.call(name, a);
        check.due("run " + run + " (" + model + "): " + name + Arrays.toString(a), Run.call(x, name, a), want);
        answers.computeIfAbsent(name, k -> new TreeSet<>()).add(want);
    }

    private int near(int low, int high) {
        if (random.nextInt(40) == 0) return new int[] {low - 1, high + 1, Integer.MIN_VALUE, Integer.MAX_VALUE}[random.nextInt(4)];
        if (random.nextInt(10) == 0) return random.nextBoolean() ? low : high;
        return low + random.nextInt(high - low + 1);
    }

    private int[] arguments(String name, Model model) {
        int i = near(0, model.call("count", 0) - 1);
        int d = near(0, model.call("count", 1) - 1);
        switch (name) {
            case "write": return new int[] {near(32, 126)};
            case "guest": return new int[] {i, near(0, 3)};
            case "dish": return new int[] {d, near(0, 3)};
            case "worth": case "veto": return new int[] {i, d};
            case "pass": return new int[] {random.nextInt(3) > 0 ? near(1, 8) : near(1, 30)};
            case "order": case "suits": return new int[] {d};
            case "most": case "fair": case "two": return new int[] {near(0, 1)};
            case "beats": return new int[] {d, near(0, model.call("count", 1) - 1)};
            case "struck": case "may": return new int[] {i};
            case "houses": return new int[] {random.nextBoolean() ? near(0, 99) : near(0, 15)};
            case "waits": case "against": return new int[] {d, near(0, 1)};
            case "heard": return new int[] {i, d, near(0, 1)};
            case "ask": return new int[] {near(1, 9)};
            case "wheel": return new int[] {near(0, 6), near(0, 1)};
            case "evening": return new int[] {near(0, 9999), near(1, 20), near(0, 1)};
            case "count": return new int[] {near(0, 8)};
            default: return new int[0];
        }
    }

    // ---- texts, most of them without a fault

    private String text() {
        List<String> items = new ArrayList<>();
        int dishes = 2 + random.nextInt(5);
        if (random.nextInt(6) == 0) dishes = 4;
        else items.add("d" + dishes + ";");
        int guests = 1 + random.nextInt(random.nextInt(4) == 0 ? 10 : 5);
        int low = random.nextInt(3) == 0 ? 0 : 1 + random.nextInt(4);
        for (int i = 0; i < guests; i++) items.add(guestItem(dishes, low));
        int more = random.nextInt(6);
        for (int k = 0; k < more; k++) items.add(1 + random.nextInt(items.size()), otherItem(dishes));
        if (random.nextInt(6) == 0) spoil(items);
        String text = String.join("", items);
        if (random.nextInt(12) != 0) return text;
        return (text + "v2;".repeat(67)).substring(0, 198 + random.nextInt(4));
    }

    private String guestItem(int dishes, int low) {
        StringBuilder item = new StringBuilder("g").append(random.nextInt(4));
        int span = 1 + random.nextInt(10 - low);
        for (int d = 0; d < dishes; d++) item.append(low + random.nextInt(span));
        return item.append(';').toString();
    }

    private String otherItem(int dishes) {
        switch (random.nextInt(4)) {
            case 0: return "t" + random.nextInt(dishes) + "," + (1 + random.nextInt(60)) + ";";
            case 1: return "v" + random.nextInt(4) + ";";
            case 2: return "s" + (1 + random.nextInt(99)) + ";";
            default: return "h" + (1 + random.nextInt(random.nextBoolean() ? 60 : 9)) + ";";
        }
    }

    private void spoil(List<String> items) {
        int k = random.nextInt(items.size());
        StringBuilder item = new StringBuilder(items.get(k));
        String letters = "dgtvsh0123456789,; ";
        char letter = letters.charAt(random.nextInt(letters.length()));
        int place = random.nextInt(item.length());
        switch (random.nextInt(3)) {
            case 0: item.deleteCharAt(place); break;
            case 1: item.insert(place, letter); break;
            default: item.setCharAt(place, letter);
        }
        items.set(k, item.toString());
    }
}
