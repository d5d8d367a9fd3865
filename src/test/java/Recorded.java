import java.util.ArrayList;
import java.util.List;

/**
 * A broker whose calls are kept. The document promises nothing behind an object's 512th call, so
 * what a broker has come to is asked of twins: new objects that get the same calls first.
 */
final class Recorded {
    interface Call {
        long on(CreditBroker b);
    }

    private static final int MOST_CALLS = 512;
    private static final int SHELVES = 8;
    private static final int ELEMENTS = 40;
    private static final int FIRST_REFUSAL = 12;
    private static final int REFUSALS = 5;

    private final CreditBroker broker = new CreditBroker();
    private final List<Call> calls = new ArrayList<>();
    private boolean hasImage;

    private int told(Call call) {
        return (int) toldLong(call);
    }

    private long toldLong(Call call) {
        if (calls.size() >= MOST_CALLS) {
            throw new IllegalStateException("more than 512 calls on one object");
        }
        calls.add(call);
        return call.on(broker);
    }

    int countCalls() {
        return calls.size();
    }

    // ---- the face

    int row(int s, int sort, int n) {
        return told(b -> b.row(s, sort, n));
    }

    int set(int s, int i, long v) {
        return told(b -> b.set(s, i, v));
    }

    int copy(int p, int q, int i, int j, int n) {
        return told(b -> b.copy(p, q, i, j, n));
    }

    long element(int s, int i) {
        return toldLong(b -> b.element(s, i));
    }

    int holds(int s) {
        return told(b -> b.holds(s));
    }

    int show(int s, int i, int link) {
        return told(b -> b.show(s, i, link));
    }

    int says(int s, int kind) {
        return told(b -> b.says(s, kind));
    }

    int feed(int letter) {
        return told(b -> b.feed(letter));
    }

    int wipe() {
        return told(b -> b.wipe());
    }

    int topic() {
        return told(b -> b.topic());
    }

    int queue(int limit, int tries, int lease, int age) {
        return told(b -> b.queue(limit, tries, lease, age));
    }

    int exclusive(int queue, int is) {
        return told(b -> b.exclusive(queue, is));
    }

    int consumer(int queue) {
        return told(b -> b.consumer(queue));
    }

    int leave(int consumer) {
        return told(b -> b.leave(consumer));
    }

    int credit(int consumer, int n) {
        return told(b -> b.credit(consumer, n));
    }

    int publish(int key, int priority, int v) {
        return told(b -> b.publish(key, priority, v));
    }

    int give(int queue) {
        return told(b -> b.give(queue));
    }

    int giveAll(int queue) {
        return told(b -> b.giveAll(queue));
    }

    int ack(int consumer, int message) {
        return told(b -> b.ack(consumer, message));
    }

    int nack(int consumer, int message) {
        return told(b -> b.nack(consumer, message));
    }

    int pass(int n) {
        return told(b -> b.pass(n));
    }

    int revive(int i) {
        return told(b -> b.revive(i));
    }

    int bury(int queue) {
        return told(b -> b.bury(queue));
    }

    int purge(int queue) {
        return told(b -> b.purge(queue));
    }

    int queueOf(int queue, int what) {
        return told(b -> b.queueOf(queue, what));
    }

    int letter(int queue, int i, int what) {
        return told(b -> b.letter(queue, i, what));
    }

    int consumerOf(int consumer, int what) {
        return told(b -> b.consumerOf(consumer, what));
    }

    int held(int consumer, int i) {
        return told(b -> b.held(consumer, i));
    }

    int messageOf(int message, int what) {
        return told(b -> b.messageOf(message, what));
    }

    int dead(int i, int what) {
        return told(b -> b.dead(i, what));
    }

    int cause(int i, int link, int what) {
        return told(b -> b.cause(i, link, what));
    }

    int fits() {
        return told(b -> b.fits());
    }

    int covers(int queue, int other) {
        return told(b -> b.covers(queue, other));
    }

    int pattern(int queue, int i) {
        return told(b -> b.pattern(queue, i));
    }

    int next(int queue, int what) {
        return told(b -> b.next(queue, what));
    }

    int blocked(int queue) {
        return told(b -> b.blocked(queue));
    }

    int drained(int queue, int i) {
        return told(b -> b.drained(queue, i));
    }

    int until(int queue) {
        return told(b -> b.until(queue));
    }

    int doomed(int n) {
        return told(b -> b.doomed(n));
    }

    int judge(int queue, int s, int n) {
        return told(b -> b.judge(queue, s, n));
    }

    int days(int n) {
        return told(b -> b.days(n));
    }

    int seed(int v) {
        return told(b -> b.seed(v));
    }

    int image() {
        hasImage = true;
        return told(b -> b.image());
    }

    int back() {
        return told(b -> b.back());
    }

    int status(int what) {
        return told(b -> b.status(what));
    }

    // ---- what it has come to, asked of twins

    /** All that can be asked, but THE TAPE and REFUSALS; a row for each question and its answer. */
    List<String> state() {
        Asker asker = new Asker(calls);
        asker.all();
        return asker.told;
    }

    /** What the image keeps, if there is one; nothing but what back() brings. */
    List<String> imageState() {
        if (!hasImage) {
            return List.of();
        }
        List<Call> more = new ArrayList<>(calls);
        more.add(b -> b.back());
        Asker asker = new Asker(more);
        asker.all();
        return asker.told;
    }

    /** THE TAPE's size, and what its bytes come to if they are read. */
    List<String> tapeState() {
        Asker size = new Asker(calls);
        size.ask("status(8)", b -> b.status(8));
        Asker asTopic = new Asker(calls);
        asTopic.ask("topic()", b -> b.topic());
        Asker asQueue = new Asker(calls);
        int queue = asQueue.ask("queue(1, 1, 1, 0)", b -> b.queue(1, 1, 1, 0));
        if (queue >= 0) {
            asQueue.pattern(queue);
        }
        size.told.addAll(asTopic.told);
        size.told.addAll(asQueue.told);
        return size.told;
    }

    /** How often each of -82 to -86 was answered. */
    int[] refusals() {
        Asker asker = new Asker(calls);
        int[] counts = new int[REFUSALS];
        for (int k = 0; k < REFUSALS; k++) {
            int what = FIRST_REFUSAL + k;
            counts[k] = asker.ask("status", b -> b.status(what));
        }
        return counts;
    }

    private static final class Asker {
        private final List<Call> ahead;
        private final List<String> told = new ArrayList<>();
        private CreditBroker twin;
        private int used;

        Asker(List<Call> ahead) {
            this.ahead = ahead;
            if (ahead.size() >= MOST_CALLS) {
                throw new IllegalStateException("no call is left to ask with");
            }
        }

        int ask(String what, Call call) {
            if (twin == null || used >= MOST_CALLS) {
                twin = new CreditBroker();
                for (Call one : ahead) {
                    one.on(twin);
                }
                used = ahead.size();
            }
            used++;
            long answer = call.on(twin);
            told.add(what + " = " + answer);
            return (int) answer;
        }

        void all() {
            for (int what = 0; what <= 10; what++) {
                int k = what;
                if (what != 8) {
                    ask("status(" + k + ")", b -> b.status(k));
                }
            }
            for (int s = 0; s < SHELVES; s++) {
                shelf(s);
            }
            int queues = ask("queues", b -> b.status(0));
            for (int q = 0; q < queues; q++) {
                queue(q, queues);
            }
            int consumers = ask("consumers", b -> b.status(1));
            for (int c = 0; c < consumers; c++) {
                consumer(c);
            }
            int messages = ask("messages", b -> b.status(2));
            for (int m = 0; m < messages; m++) {
                message(m);
            }
            int dead = ask("dead", b -> b.status(3));
            for (int i = 0; i < dead; i++) {
                dead(i);
            }
            if (ask("parts", b -> b.status(7)) > 0) {
                ask("fits()", b -> b.fits());
            }
            for (int n : new int[] {0, 1, 5, 99}) {
                ask("doomed(" + n + ")", b -> b.doomed(n));
            }
        }

        private void shelf(int s) {
            int held = ask("holds(" + s + ")", b -> b.holds(s));
            for (int i = 0; held >= 0 && held < 10 && i < ELEMENTS; i++) {
                int place = i;
                ask("element(" + s + ", " + place + ")", b -> b.element(s, place));
            }
            for (int kind = 0; held >= 10 && kind <= 6; kind++) {
                int k = kind;
                ask("says(" + s + ", " + k + ")", b -> b.says(s, k));
            }
        }

        private void queue(int q, int queues) {
            for (int what = 0; what <= 10; what++) {
                int k = what;
                ask("queueOf(" + q + ", " + k + ")", b -> b.queueOf(q, k));
            }
            int letters = ask("letters", b -> b.queueOf(q, 0));
            for (int i = 0; i < letters; i++) {
                for (int what = 0; what <= 4; what++) {
                    int place = i;
                    int k = what;
                    ask("letter(" + q + ", " + place + ", " + k + ")", b -> b.letter(q, place, k));
                }
            }
            pattern(q);
            for (int other = 0; other < queues; other++) {
                int inner = other;
                ask("covers(" + q + ", " + inner + ")", b -> b.covers(q, inner));
            }
            ask("next(" + q + ", 0)", b -> b.next(q, 0));
            ask("next(" + q + ", 1)", b -> b.next(q, 1));
            ask("blocked(" + q + ")", b -> b.blocked(q));
            ask("until(" + q + ")", b -> b.until(q));
            for (int i = 0; i <= letters; i++) {
                int place = i;
                ask("drained(" + q + ", " + place + ")", b -> b.drained(q, place));
            }
        }

        private void pattern(int q) {
            for (int i = 0; i <= 19; i++) {
                int place = i;
                ask("pattern(" + q + ", " + place + ")", b -> b.pattern(q, place));
            }
        }

        private void consumer(int c) {
            for (int what = 0; what <= 4; what++) {
                int k = what;
                ask("consumerOf(" + c + ", " + k + ")", b -> b.consumerOf(c, k));
            }
            int out = ask("out", b -> b.consumerOf(c, 2));
            for (int i = 0; i < out; i++) {
                int place = i;
                ask("held(" + c + ", " + place + ")", b -> b.held(c, place));
            }
        }

        private void message(int m) {
            for (int what = 0; what <= 5; what++) {
                int k = what;
                ask("messageOf(" + m + ", " + k + ")", b -> b.messageOf(m, k));
            }
        }

        private void dead(int i) {
            for (int what = 0; what <= 3; what++) {
                int k = what;
                ask("dead(" + i + ", " + k + ")", b -> b.dead(i, k));
            }
            int causes = ask("causes", b -> b.dead(i, 3));
            for (int link = 0; link < causes; link++) {
                int at = link;
                ask("cause(" + i + ", " + at + ", 0)", b -> b.cause(i, at, 0));
                ask("cause(" + i + ", " + at + ", 1)", b -> b.cause(i, at, 1));
            }
        }
    }
}
