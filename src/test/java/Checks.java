import java.util.ArrayList;
import java.util.List;
import java.util.function.IntToLongFunction;
import java.util.function.LongSupplier;

/** What the tests of promises share: how an answer that isn't due is told, and scenes to begin with. */
abstract class Checks {
    static final int NONE = CreditBroker.NONE;
    static final int BAD = -82;
    static final int OTHER = -83;
    static final int NOTHING = -84;
    static final int STUCK = -85;
    static final int FULL = -86;
    static final int FAULTS = -300;
    static final int LEAST = Integer.MIN_VALUE;
    static final int MOST = Integer.MAX_VALUE;

    private static int wrong = 0;
    private static int sentences = 0;
    private static String sentence = "";

    /** The test of a sentence of the document begins: the answers behind it are its own. */
    static void the(String text) {
        sentence = text;
        sentences++;
    }

    static void end(String name) {
        System.out.println(name + ": " + (wrong == 0 ? sentences + " sentences, all answers are as due"
            : wrong + " answers are not as due"));
        if (wrong != 0) {
            System.exit(1);
        }
    }

    static void due(String what, long got, long want) {
        if (got != want) {
            wrong++;
            System.out.println(sentence + ": " + what + " answered " + got + ", due is " + want);
        }
    }

    /** Both were asked the same; what is told otherwise is printed. */
    static void dueAlike(String what, List<String> got, List<String> want) {
        if (got.equals(want)) {
            return;
        }
        wrong++;
        List<String> more = new ArrayList<>(got);
        List<String> less = new ArrayList<>(want);
        more.removeAll(want);
        less.removeAll(got);
        System.out.println(sentence + ": " + what + ", told is " + more + ", due is " + less);
    }

    /** The call answers its refusal's number, that one is counted once, and nothing else changes. */
    static void refused(Recorded x, String what, LongSupplier call, int want) {
        List<String> tape = x.tapeState();
        refusedBesideTape(x, what, call, want);
        dueAlike(what + " changed THE TAPE", x.tapeState(), tape);
    }

    /** As refused, but THE TAPE, which isn't empty, is empty then. */
    static void refusedTapeGone(Recorded x, String what, LongSupplier call, int want) {
        refusedBesideTape(x, what, call, want);
        due(what + ", THE TAPE's size then", x.status(8), 0);
    }

    private static void refusedBesideTape(Recorded x, String what, LongSupplier call, int want) {
        int[] before = x.refusals();
        List<String> state = x.state();
        List<String> image = x.imageState();
        due(what, call.getAsLong(), want);
        int[] after = x.refusals();
        int counted = want <= FAULTS ? BAD : want;
        for (int k = 0; k < after.length; k++) {
            due(what + ", refusals " + (BAD - k), after[k] - before[k], BAD - k == counted ? 1 : 0);
        }
        dueAlike(what + " changed something", x.state(), state);
        dueAlike(what + " changed the image", x.imageState(), image);
    }

    /** The same call is refused with each of these numbers. */
    static void refusedWith(Recorded x, String what, int[] numbers, IntToLongFunction call, int want) {
        for (int number : numbers) {
            refused(x, what + " with " + number, () -> call.applyAsLong(number), want);
        }
    }

    /** The call answers this, nothing is refused, and nothing changes. */
    static void only(Recorded x, String what, LongSupplier call, long want) {
        int[] before = x.refusals();
        List<String> state = x.state();
        List<String> tape = x.tapeState();
        due(what, call.getAsLong(), want);
        int[] after = x.refusals();
        for (int k = 0; k < after.length; k++) {
            due(what + ", refusals " + (BAD - k), after[k] - before[k], 0);
        }
        dueAlike(what + " changed something", x.state(), state);
        dueAlike(what + " changed THE TAPE", x.tapeState(), tape);
    }

    /** What no number from least to most is: the nearest ones, and the farthest. */
    static int[] outside(int least, int most) {
        return new int[] {least - 1, most + 1, LEAST, MOST};
    }

    static void feedAll(Recorded x, String text) {
        for (int i = 0; i < text.length(); i++) {
            x.feed(text.charAt(i));
        }
    }

    static int topic(Recorded x, String text) {
        feedAll(x, text);
        return x.topic();
    }

    static int queue(Recorded x, String text, int limit, int tries, int lease, int age) {
        feedAll(x, text);
        return x.queue(limit, tries, lease, age);
    }

    // ---- scenes

    /** One queue for all topics, one topic, one consumer with credits. */
    static Recorded simple(int limit, int tries, int lease, int age, int credits) {
        Recorded x = new Recorded();
        queue(x, "#", limit, tries, lease, age);
        topic(x, "a");
        x.consumer(0);
        if (credits > 0) {
            x.credit(0, credits);
        }
        return x;
    }

    /**
     * Three dead: message 2 by FULL of limit 2 at time 0; message 0 by OLD at time 9 behind a
     * REJECTED (by consumer 0) at time 0; message 3 of queue 1 by LATE (of consumer 1) at time 13
     * behind a REJECTED at 9.
     */
    static Recorded withCauses() {
        Recorded x = new Recorded();
        queue(x, "a", 2, 4, 3, 9);
        queue(x, "b", 5, 2, 3, 0);
        x.consumer(0);
        x.consumer(1);
        x.credit(0, 3);
        x.credit(1, 3);
        topic(x, "a");
        x.publish(0, 0, 0);
        x.publish(1, 0, 0);
        x.publish(2, 0, 0);
        x.give(0);
        x.nack(0, 0);
        x.give(0);
        x.ack(0, 1);
        x.pass(9);
        topic(x, "b");
        x.publish(3, 0, 0);
        x.give(1);
        x.nack(1, 3);
        x.pass(1);
        x.give(1);
        x.pass(3);
        return x;
    }

    /**
     * Something of everything, for refusals that are to leave it so. NOW is 6. Queue 0 (three
     * tries) has message 2 RESTING till 7, 3 OUT with consumer 0 till 15, 4 READY; queue 1
     * (EXCLUSIVE, at its limit of 2) has 0 READY, 1 OUT with consumer 2; queue 2 is empty, its
     * consumer 3 LEFT. Dead are 2 and 3 of queue 1 by FULL, 1 of queue 0 by REJECTED three times,
     * 4 of queue 1 by FULL. SHELF 0 holds three longs, 1 two bytes, 2 a FULL, 3 a REJECTED, 4 a
     * row of no elements; THE TAPE is c.d, THE TOPIC a.b. An image of time 0 was kept.
     */
    static Recorded scene() {
        Recorded x = new Recorded();
        queue(x, "#", 5, 3, 9, 0);
        queue(x, "a.*", 2, 2, 9, 90);
        queue(x, "b", 3, 1, 1, 1);
        for (int queue : new int[] {0, 0, 1, 2}) {
            x.consumer(queue);
        }
        x.credit(0, 4);
        x.credit(1, 2);
        x.credit(2, 1);
        x.exclusive(1, 1);
        topic(x, "a.b");
        x.publish(1, 0, 10);
        x.publish(2, 3, 11);
        x.image();
        x.publish(3, 2, 12);
        x.publish(4, 1, 13);
        x.leave(3);
        for (int wait = 1; wait <= 3; wait++) {
            x.give(0);
            x.nack((wait + 1) % 2, 1);
            x.pass(wait);
        }
        x.give(0);
        x.nack(1, 2);
        x.give(0);
        x.give(0);
        x.ack(1, 0);
        x.give(1);
        x.publish(2, 0, 14);
        x.seed(-99);
        x.row(0, 3, 3);
        x.set(0, 1, 1L << 40);
        x.row(1, 0, 2);
        x.set(1, 0, 77);
        x.show(2, 0, 0);
        x.show(3, 2, 1);
        x.row(4, 2, 0);
        feedAll(x, "c.d");
        return x;
    }
}
