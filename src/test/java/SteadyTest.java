import java.util.Arrays;
import java.util.List;
import java.util.Random;

/** No call ever throws, whatever it is given, behind the 512th call too; refusals and questions leave no trace. */
public final class SteadyTest {
    private static final Check CHECK = new Check("SteadyTest");
    private static final int[] ODD = {Integer.MIN_VALUE, Integer.MIN_VALUE + 1, -65536, -100, -33, -32, -5, -4, -3, -2,
        -1, 0, 1, 2, 3, 4, 5, 6, 7, 8, 9, 10, 20, 21, 30, 31, 32, 33, 63, 64, 99, 100, 126, 127, 9999, 10000, 65536,
        Integer.MAX_VALUE - 1, Integer.MAX_VALUE};
    private static final List<String> ACTS = List.of("write", "wipe", "lay", "pass", "veto", "order", "undo", "heard",
            "forget", "keep", "back");

    public static void main(String[] args) {
        Random random = new Random(7);
        for (int run = 0; run < 60; run++) oddCalls(random);
        for (int run = 0; run < 600; run++) twins(random, run);
        CHECK.finish();
    }

    private static void oddCalls(Random random) {
        NoneMinds x = new NoneMinds();
        for (int k = 0; k < 3000; k++) {
            String name = Run.CALLS[random.nextInt(Run.CALLS.length)];
            int answer = Run.call(x, name, odd(random), odd(random), odd(random));
            CHECK.holds("an answer from -4 to 46656: " + answer, answer >= -4 && answer <= 46656);
        }
    }

    /** One object is asked and refused much beside what is done; the other one only does it. */
    private static void twins(Random random, int number) {
        Run asked = new Run(CHECK, "the one that is asked");
        Run quiet = new Run(CHECK, "the quiet one");
        if (number % 3 != 0) {
            String text = "d5;g012345;g198765;g255555;g344044;v3;h3;s70;";
            asked.laid(text);
            quiet.laid(text);
        }
        int calls = 10 + random.nextInt(110);
        for (int k = 0; k < calls; k++) {
            String name = random.nextInt(3) == 0 ? Run.CALLS[random.nextInt(Run.CALLS.length)]
                    : ACTS.get(3 + random.nextInt(ACTS.size() - 3));
            int[] a = {usual(random, 6), usual(random, 5), usual(random, 2)};
            int answer = asked.call(name, a);
            if (answer < 0 || !ACTS.contains(name)) continue;
            CHECK.due(name + Arrays.toString(a) + " of the quiet one", quiet.call(name, a), answer);
        }
        if (number % 2 == 0) CHECK.holds("both look alike", asked.look().equals(quiet.look()));
        else CHECK.holds("both hide alike", asked.unwind().equals(quiet.unwind()));
    }

    private static int usual(Random random, int below) {
        return random.nextInt(4) == 0 ? odd(random) : random.nextInt(below);
    }

    private static int odd(Random random) {
        return random.nextInt(3) == 0 ? random.nextInt() : ODD[random.nextInt(ODD.length)];
    }
}
