import java.lang.management.ManagementFactory;

/**
 * The room of one run: 512 calls of the dearest sorts on one object make far fewer than 600,000
 * objects with 7.3 million fields and elements. The machine tells bytes: an element takes at
 * least one of them, an object 16, so 7.3 million bytes keep both.
 */
public final class RoomTest {
    private static final long MOST_BYTES = 7_300_000L;
    private static final int MOST_CALLS = 512;
    /** Those of full: queues, consumers, a topic, messages, what is given, an image. */
    private static final int OPENING_CALLS = 16 + 20 + 2 + 20 + 8 + 1;
    private static final int MOST_CALLS_AT_ONCE = 6;
    private static int wrong = 0;

    public static void main(String[] args) {
        for (int sort = 0; sort < 5; sort++) {
            run(sort);
        }
        System.out.println(wrong == 0 ? "room: enough for every run" : wrong + " runs need too much room");
        if (wrong != 0) {
            System.exit(1);
        }
    }

    private static long bytes() {
        return ((com.sun.management.ThreadMXBean) ManagementFactory.getThreadMXBean())
            .getThreadAllocatedBytes(Thread.currentThread().getId());
    }

    private static void run(int sort) {
        long before = bytes();
        CreditBroker x = full(sort);
        int call = OPENING_CALLS;
        while (call + MOST_CALLS_AT_ONCE <= MOST_CALLS) {
            call += dearCalls(x, sort);
        }
        long made = bytes() - before;
        System.out.println("room, sort " + sort + ": " + made + " bytes");
        if (made > MOST_BYTES) {
            wrong++;
        }
    }

    private static CreditBroker full(int sort) {
        CreditBroker x = new CreditBroker();
        for (int q = 0; q < 8; q++) {
            x.feed('#');
            x.queue(sort == 0 ? 1 : 20, sort == 1 ? 5 : 1, 1, sort == 2 ? 1 : 0);
        }
        for (int c = 0; c < 10; c++) {
            x.consumer(c % 8);
            x.credit(c, 9);
        }
        x.feed('a');
        x.topic();
        for (int k = 0; k < 20; k++) {
            x.publish(k % 8, 0, 0);
        }
        for (int q = 0; q < 8; q++) {
            x.giveAll(q);
        }
        x.image();
        return x;
    }

    private static int dearCalls(CreditBroker x, int sort) {
        if (sort == 3) {
            x.doomed(99);
            x.until(3);
            x.drained(3, 19);
            x.row(0, 3, 40);
            x.judge(3, 0, 20);
            x.image();
            return 6;
        }
        if (sort == 4) {
            x.publish(0, 0, 0);
            x.pass(99);
            x.giveAll(3);
            return 3;
        }
        x.back();
        if (sort == 0) {
            x.days(60);
        } else {
            x.pass(99);
        }
        return 2;
    }
}
