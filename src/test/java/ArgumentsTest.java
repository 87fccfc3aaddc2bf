import java.util.ArrayList;
import java.util.List;

/**
 * Each number that a call takes: the last one that is told and the first one that is not, on either side, the least
 * and the greatest int; BAD goes ahead of NO, NONE and FULL; and behind a BAD nothing has changed.
 */
public final class ArgumentsTest {
    private static final Check CHECK = new Check("ArgumentsTest");
    private static final int I = 1, D = 2;
    /** The promise, the call, and for each number that it takes: I a guest, D a dish, or from what to what. */
    private static final Object[][] CALLS = {
        {2, "write", from(32, 126)},
        {6, "guest", I, from(0, 3)},
        {7, "dish", D, from(0, 3)},
        {8, "worth", I, D},
        {9, "pass", from(1, 30)},
        {10, "veto", I, D},
        {11, "order", D},
        {13, "most", from(0, 1)},
        {14, "fair", from(0, 1)},
        {15, "beats", D, D},
        {18, "struck", I},
        {19, "two", from(0, 1)},
        {20, "houses", from(0, 99)},
        {21, "waits", D, from(0, 1)},
        {22, "heard", I, D, from(0, 1)},
        {24, "may", I},
        {25, "suits", D},
        {26, "against", D, from(0, 1)},
        {27, "ask", from(1, 9)},
        {28, "wheel", from(0, 6), from(0, 1)},
        {29, "evening", from(0, 9999), from(1, 20), from(0, 1)},
        {32, "count", from(0, 8)},
    };
    /** The text that is laid, what is done then, and whether a call may be refused there for another reason. */
    private static final Object[][] STATES = {
        {"", "", false},
        {"d2;g012;", "", false},
        {"d6;g0123456;g1223344;g2333333;v3;", "pass(3) keep() pass(4)", false},
        {"d5;" + "g112345;".repeat(9) + "v3;", "", false},
        {"d3;g0123;g1234;", "pass(9) keep() veto(1,0) keep() order(2)", true},
        {"d2;g012;g112;v3;", "heard(0,0,1) veto(0,0) pass(30) pass(30)", true},
        {"d2;g030;g003;s1;", "pass(30) pass(30) pass(30) pass(9)", true},
        {"d2;g012;" + "v3;".repeat(64), "heard(0,1,1) heard(0,1,1) heard(0,1,1) heard(0,1,1) heard(0,1,1) "
            + "heard(0,1,1) heard(0,1,1) heard(0,1,1) keep() keep()", true},
    };

    public static void main(String[] args) {
        for (Object[] state : STATES) {
            for (Object[] call : CALLS) oneCall(state, call);
        }
        CHECK.finish();
    }

    private static int[] from(int low, int high) {
        return new int[] {low, high};
    }

    private static Run run(Object[] state, int promise) {
        Run run = new Run(CHECK, String.valueOf(promise));
        if (!((String) state[0]).isEmpty()) run.laid((String) state[0]);
        return run.go((String) state[1]);
    }

    private static int[] range(Object told, Run run) {
        if (told instanceof int[] range) return range;
        return from(0, run.call("count", (int) told == I ? 0 : 1) - 1);
    }

    private static void oneCall(Object[] state, Object[] call) {
        int promise = (int) call[0];
        Run asked = run(state, promise);
        int[][] ranges = new int[call.length - 2][];
        for (int k = 0; k < ranges.length; k++) ranges[k] = range(call[2 + k], asked);
        String look = run(state, promise).look();
        String unwound = run(state, promise).unwind();
        for (int k = 0; k < ranges.length; k++) {
            taken(state, call, ranges, k);
            for (int number : outside(ranges[k][0], ranges[k][1])) {
                for (int other = 0; other <= 1; other++) {
                    String told = told((String) call[1], numbers(ranges, k, number, other));
                    Run refused = run(state, promise).due(told, NoneMinds.BAD);
                    CHECK.holds(promise + ": " + told + " changes nothing", refused.look().equals(look));
                    Run again = run(state, promise).due(told, NoneMinds.BAD);
                    CHECK.holds(promise + ": " + told + " changes nothing hidden", again.unwind().equals(unwound));
                }
            }
        }
    }

    private static void taken(Object[] state, Object[] call, int[][] ranges, int k) {
        if ((boolean) state[2]) return;
        for (int number : ranges[k]) {
            for (int other = 0; other <= 1; other++) {
                int[] numbers = numbers(ranges, k, number, other);
                if (call[1].equals("beats") && numbers[0] == numbers[1]) continue;
                String told = told((String) call[1], numbers);
                int answer = run(state, (int) call[0]).ask(told);
                CHECK.holds(call[0] + ": " + told + " is taken, it answered " + answer, answer != NoneMinds.BAD);
            }
        }
    }

    /** Beside the nearest ones and the ends, some that are like a right one, if only their last bits are looked at. */
    private static List<Integer> outside(int low, int high) {
        List<Integer> numbers = new ArrayList<>();
        for (int number : new int[] {low - 1, high + 1, low - 2, high + 2, Integer.MIN_VALUE, Integer.MAX_VALUE,
            Integer.MIN_VALUE + low, Integer.MIN_VALUE + high, low + 256, high - 256, low + 65536, high - 65536, ~low}) {
            if (number < low || number > high) numbers.add(number);
        }
        return numbers;
    }

    private static int[] numbers(int[][] ranges, int k, int number, int other) {
        int[] numbers = new int[ranges.length];
        for (int j = 0; j < numbers.length; j++) numbers[j] = j == k ? number : ranges[j][other];
        return numbers;
    }

    private static String told(String name, int[] numbers) {
        StringBuilder told = new StringBuilder(name).append('(');
        for (int k = 0; k < numbers.length; k++) told.append(k > 0 ? ", " : "").append(numbers[k]);
        return told.append(')').toString();
    }
}
