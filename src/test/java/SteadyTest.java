import java.util.Random;

/** No call ever throws, whatever it is given, behind the 512th call too; and a refused call changes nothing. */
public final class SteadyTest {
    private static final Check CHECK = new Check("SteadyTest");
    private static final int[] ODD = {Integer.MIN_VALUE, Integer.MIN_VALUE + 1, -65536, -100, -33, -32, -5, -4, -3, -2,
        -1, 0, 1, 2, 3, 4, 5, 6, 7, 8, 9, 10, 20, 21, 30, 31, 32, 33, 63, 64, 99, 100, 126, 127, 9999, 10000, 65536,
        Integer.MAX_VALUE - 1, Integer.MAX_VALUE};
    private static final int CALLS = 31;

    public static void main(String[] args) {
        Random random = new Random(7);
        for (int run = 0; run < 60; run++) oddCalls(random);
        for (int run = 0; run < 60; run++) refusals(random);
        CHECK.finish();
    }

    private static void oddCalls(Random random) {
        NoneMinds x = new NoneMinds();
        for (int k = 0; k < 3000; k++) {
            int answer = call(x, random.nextInt(CALLS), odd(random), odd(random), odd(random));
            CHECK.holds("an answer from -4 to 46656: " + answer, answer >= -4 && answer <= 46656);
        }
    }

    private static void refusals(Random random) {
        NoneMinds x = random.nextBoolean() ? new NoneMinds() : Check.laid("d5;g012345;g198765;g255555;g344044;v3;h3;s70;");
        for (int k = 0; k < 400; k++) {
            int which = random.nextInt(CALLS);
            int a = random.nextInt(4) == 0 ? odd(random) : random.nextInt(6);
            int b = random.nextInt(4) == 0 ? odd(random) : random.nextInt(5);
            int c = random.nextInt(4) == 0 ? odd(random) : random.nextInt(2);
            String before = Check.look(x);
            int answer = call(x, which, a, b, c);
            if (answer < 0 || which >= 11 && which != 20 && which != 21 && which != 28 && which != 29) {
                String what = "call " + which + " of " + a + ", " + b + ", " + c + ", which answered " + answer;
                CHECK.holds(what + ", changes nothing", before.equals(Check.look(x)));
            }
        }
    }

    private static int odd(Random random) {
        return random.nextInt(3) == 0 ? random.nextInt() : ODD[random.nextInt(ODD.length)];
    }

    /** In the order of the document's face: questions are 2, 4 to 6, 11 to 19, 22 to 27 and 30. */
    private static int call(NoneMinds x, int which, int a, int b, int c) {
        switch (which) {
            case 0: return x.write(a);
            case 1: return x.wipe();
            case 2: return x.fault();
            case 3: return x.lay();
            case 4: return x.guest(a, b);
            case 5: return x.dish(a, b);
            case 6: return x.worth(a, b);
            case 7: return x.pass(a);
            case 8: return x.veto(a, b);
            case 9: return x.order(a);
            case 10: return x.undo();
            case 11: return x.most(a);
            case 12: return x.fair(a);
            case 13: return x.beats(a, b);
            case 14: return x.champion();
            case 15: return x.middle();
            case 16: return x.struck(a);
            case 17: return x.two(a);
            case 18: return x.houses(a);
            case 19: return x.waits(a, b);
            default: return callMore(x, which, a, b, c);
        }
    }

    private static int callMore(NoneMinds x, int which, int a, int b, int c) {
        switch (which) {
            case 20: return x.heard(a, b, c);
            case 21: return x.forget();
            case 22: return x.may(a);
            case 23: return x.suits(a);
            case 24: return x.against(a, b);
            case 25: return x.ask(a);
            case 26: return x.wheel(a, b);
            case 27: return x.evening(a, b, c);
            case 28: return x.keep();
            case 29: return x.back();
            default: return x.count(a);
        }
    }
}
