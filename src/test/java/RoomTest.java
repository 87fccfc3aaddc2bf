import java.lang.management.ManagementFactory;
import java.util.Random;

/**
 * The room of a run: all its objects and arrays together are few. The constructor makes some, and no call makes any,
 * so that 512 calls of the dearest one take no room either.
 */
public final class RoomTest {
    private static final Check CHECK = new Check("RoomTest");
    private static final int OBJECTS = 200;

    public static void main(String[] args) {
        if (!(ManagementFactory.getThreadMXBean() instanceof com.sun.management.ThreadMXBean)) {
            System.out.println("RoomTest: this machine does not count what is made");
            return;
        }
        com.sun.management.ThreadMXBean counter = (com.sun.management.ThreadMXBean) ManagementFactory.getThreadMXBean();
        long thread = Thread.currentThread().getId();
        int[] numbers = new Random(3).ints(4096, -1, 7).toArray();
        NoneMinds[] tables = new NoneMinds[OBJECTS];
        for (int round = 0; round < 3; round++) {
            long begin = counter.getThreadAllocatedBytes(thread);
            for (int k = 0; k < OBJECTS; k++) tables[k] = new NoneMinds();
            long made = counter.getThreadAllocatedBytes(thread);
            for (NoneMinds table : tables) use(table, numbers);
            long used = counter.getThreadAllocatedBytes(thread);
            if (round == 0) continue;
            CHECK.holds("an object takes " + (made - begin) / OBJECTS + " bytes, 16000 at most", made - begin < 16_000L * OBJECTS);
            CHECK.holds("all calls take " + (used - made) + " bytes, 32 for each object at most", used - made < 32L * OBJECTS);
        }
        CHECK.finish();
    }

    private static void use(NoneMinds x, int[] numbers) {
        String text = "d6;g0123456;g1654321;v3;h3;";
        for (int k = 0; k < text.length(); k++) x.write(text.charAt(k));
        x.lay();
        for (int k = text.length() + 1; k < 512; k++) {
            int at = 3 * k % (numbers.length - 2);
            call(x, k % 31, numbers[at], numbers[at + 1], numbers[at + 2]);
        }
    }

    /** Numbers alone, as a call by its name would make objects of its own. */
    private static int call(NoneMinds x, int which, int a, int b, int c) {
        switch (which) {
            case 0: return x.write(a + 59);
            case 1: return x.wipe();
            case 2: return x.fault();
            case 3: return x.lay();
            case 4: return x.guest(a, b);
            case 5: return x.dish(a, b);
            case 6: return x.worth(a, b);
            case 7: return x.pass(a);
            case 8: return x.veto(a, b);
            case 9: return x.order(a);
            case 10: return x.undo();
            case 11: return x.most(a);
            case 12: return x.fair(a);
            case 13: return x.beats(a, b);
            case 14: return x.champion();
            case 15: return x.middle();
            case 16: return x.struck(a);
            case 17: return x.two(a);
            case 18: return x.houses(a);
            case 19: return x.waits(a, b);
            case 20: return x.heard(a, b, c);
            case 21: return x.forget();
            case 22: return x.may(a);
            case 23: return x.suits(a);
            case 24: return x.against(a, b);
            case 25: return x.ask(a);
            case 26: return x.wheel(a, b);
            case 27: return x.evening(a, b + 9, c);
            case 28: return x.keep();
            case 29: return x.back();
            default: return x.count(a);
        }
    }
}
