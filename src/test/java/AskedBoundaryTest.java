import java.math.BigInteger;
import java.util.List;

/** The boundary cases of promises 1, 26 to 32 and 36 to 46: what is told, thought, drawn and kept. */
public final class AskedBoundaryTest extends Checks {
    private static final int BYTES = 0;
    private static final int LONGS = 3;
    private static final int BOOLEANS = 4;

    public static void main(String[] args) {
        newObject();
        lastCall();
        queueOfEdges();
        letterEdges();
        consumerOfEdges();
        heldEdges();
        messageOfEdges();
        deadEdges();
        causeEdges();
        nextEdges();
        blockedEdges();
        drainedEdges();
        drainedChanges();
        untilRefusals();
        untilEdges();
        untilByKeys();
        untilByAges();
        doomedRefusals();
        doomedEdges();
        judgeRefusals();
        judgeEdges();
        judgeSorts();
        daysNumbers();
        daysOfNothing();
        daysThatPublish();
        daysThatGive();
        daysThatAnswer();
        daysEnd();
        drawsWrap();
        seedEdges();
        backOfNothing();
        imageKeepsAll();
        imageKeepsLetters();
        imageKeepsConsumers();
        imageKeepsDead();
        imageKeepsNot();
        imageOfLess();
        statusEdges();
        statusRefusals();
        end("asked");
    }

    // ---- 1 a new object

    private static void newObject() {
        the("1 a new object: nothing is there, NOW is 0, SEED is 1, nothing was refused");
        Recorded x = new Recorded();
        int[] wants = {0, 0, 0, 0, 0, 0, 0, 0, 0, 1, 0, NONE, 0, 0, 0, 0, 0};
        for (int what = 0; what < wants.length; what++) {
            due("status(" + what + ")", x.status(what), wants[what]);
        }
        the("1 a new object: no QUEUES");
        refused(x, "queueOf(0, 0)", () -> x.queueOf(0, 0), BAD);
        refused(x, "exclusive(0, 0)", () -> x.exclusive(0, 0), BAD);
        the("1 a new object: no CONSUMERS");
        refused(x, "consumerOf(0, 0)", () -> x.consumerOf(0, 0), BAD);
        the("1 a new object: no MESSAGES, nobody is dead");
        refused(x, "messageOf(0, 0)", () -> x.messageOf(0, 0), BAD);
        refused(x, "dead(0, 0)", () -> x.dead(0, 0), BAD);
        the("1 a new object: no TOPIC");
        refused(x, "fits()", () -> x.fits(), STUCK);
        the("1 a new object: SHELVES hold NOTHING");
        for (int s = 0; s <= 7; s++) {
            due("holds(" + s + ")", x.holds(s), NONE);
        }
        refused(x, "set(0, 0, 0)", () -> x.set(0, 0, 0), NOTHING);
        the("1 a new object: THE TAPE is empty");
        only(x, "wipe()", () -> x.wipe(), 0);
        the("1 a new object: nothing was kept");
        refused(x, "back()", () -> x.back(), STUCK);
        the("1 a new object: it has nothing of another object");
        scene();
        dueAlike("state", new Recorded().state(), new Recorded().state());
        due("status(9)", new Recorded().status(9), 1);
        due("status(0)", new Recorded().status(0), 0);
    }

    private static void lastCall() {
        the("An object is used for at most 512 calls: the 512th is answered");
        CreditBroker x = new CreditBroker();
        for (int k = 1; k < 512; k++) {
            x.pass(99);
        }
        due("status(4)", x.status(4), 511 * 99);
        CreditBroker y = new CreditBroker();
        y.feed('a');
        y.topic();
        y.feed('#');
        y.queue(20, 5, 99, 999);
        for (int k = 4; k < 511; k++) {
            y.days(60);
        }
        due("publish", y.publish(0, 0, 0), FULL);
    }

    // ---- 26 queueOf to 32 cause

    private static void queueOfEdges() {
        Recorded x = scene();
        the("26 queueOf: BAD QUEUE");
        refusedWith(x, "queueOf(q, 0)", outside(0, 2), q -> x.queueOf(q, 0), BAD);
        the("26 queueOf: BAD: less than 0 and more than 10 is asked");
        refusedWith(x, "queueOf(0, what)", outside(0, 10), what -> x.queueOf(0, what), BAD);
        the("26 queueOf: an empty QUEUE, all whose CONSUMERS LEFT");
        for (int what = 0; what <= 10; what++) {
            int asked = what;
            only(x, "queueOf(2, " + what + ")", () -> x.queueOf(2, asked), 0);
        }
        the("26 queueOf: LETTERS, READY, RESTING, OUT, and so on, 0 to 10");
        int[][] wants = {{3, 1, 1, 1, 1, 2, 5, 0, 6, 1, 1}, {2, 1, 0, 1, 1, 1, 0, 1, 1, 0, 3}};
        for (int q = 0; q < wants.length; q++) {
            for (int what = 0; what <= 10; what++) {
                due("queueOf(" + q + ", " + what + ")", x.queueOf(q, what), wants[q][what]);
            }
        }
        the("26 queueOf: how many MAY be GIVEN: one of a KEY, whoever has CREDITS");
        Recorded y = simple(9, 1, 1, 0, 0);
        for (int key : new int[] {0, 0, 7, 7, 3}) {
            y.publish(key, 0, 0);
        }
        due("queueOf(0, 4)", y.queueOf(0, 4), 3);
        the("26 queueOf: GIVEN, ACKNOWLEDGED, came to be DEAD so far: more than one each");
        Recorded w = simple(9, 1, 1, 0, 9);
        for (int key = 0; key < 8; key++) {
            w.publish(key, 0, 0);
        }
        due("giveAll(0)", w.giveAll(0), 8);
        for (int m = 0; m < 3; m++) {
            w.ack(0, m);
        }
        w.nack(0, 3);
        due("pass(1)", w.pass(1), 4);
        w.revive(0);
        due("GIVEN", w.queueOf(0, 8), 8);
        due("ACKNOWLEDGED", w.queueOf(0, 9), 3);
        due("came to be DEAD", w.queueOf(0, 10), 5);
        the("26 queueOf: of each QUEUE its own, the first and the 8th");
        Recorded z = new Recorded();
        topic(z, "a");
        for (int q = 0; q < 8; q++) {
            queue(z, "a", 1 + q, 1, 1, 0);
            z.consumer(q);
            z.credit(q, 1 + q);
        }
        for (int m = 0; m < 9; m++) {
            z.publish(m % 8, 0, 0);
        }
        for (int q = 0; q < 8; q += 7) {
            int[] own = {1 + q, 1 + q, 0, 0, 1 + q, 1, 1 + q, 0, 0, 0, 8 - q};
            for (int what = 0; what <= 10; what++) {
                due("queueOf(" + q + ", " + what + ")", z.queueOf(q, what), own[what]);
            }
        }
    }

    private static void letterEdges() {
        Recorded x = scene();
        the("27 letter: BAD QUEUE");
        refusedWith(x, "letter(q, 0, 0)", outside(0, 2), q -> x.letter(q, 0, 0), BAD);
        the("27 letter: BAD: no i-th");
        refusedWith(x, "letter(0, i, 0)", outside(0, 2), i -> x.letter(0, i, 0), BAD);
        refusedWith(x, "letter(2, i, 0)", new int[] {0, -1}, i -> x.letter(2, i, 0), BAD);
        the("27 letter: BAD: less than 0 and more than 4 is asked");
        refusedWith(x, "letter(0, 0, what)", outside(0, 4), what -> x.letter(0, 0, what), BAD);
        the("27 letter: RESTING, OUT, READY; NONE isn't refused");
        int[][] wants = {{2, 1, 1, NONE, 7}, {3, 2, 0, 0, 15}, {4, 0, 0, NONE, NONE}};
        for (int i = 0; i < wants.length; i++) {
            for (int what = 0; what <= 4; what++) {
                int place = i;
                int asked = what;
                only(x, "letter(0, " + i + ", " + what + ")", () -> x.letter(0, place, asked), wants[i][what]);
            }
        }
        the("27 letter: the 20th");
        Recorded y = simple(20, 1, 1, 0, 0);
        for (int m = 0; m < 20; m++) {
            y.publish(0, 0, 0);
        }
        due("letter(0, 19, 0)", y.letter(0, 19, 0), 19);
        refused(y, "letter(0, 20, 0)", () -> y.letter(0, 20, 0), BAD);
    }

    private static void consumerOfEdges() {
        Recorded x = scene();
        the("28 consumerOf: BAD CONSUMER");
        refusedWith(x, "consumerOf(c, 0)", outside(0, 3), c -> x.consumerOf(c, 0), BAD);
        the("28 consumerOf: BAD: less than 0 and more than 4 is asked");
        refusedWith(x, "consumerOf(0, what)", outside(0, 4), what -> x.consumerOf(0, what), BAD);
        the("28 consumerOf: 0 to 4, one that LEFT too");
        int[][] wants = {{0, 3, 1, 0, 3}, {0, 2, 0, 0, 3}, {1, 0, 1, 0, 1}, {2, 0, 0, 1, 0}};
        for (int c = 0; c < wants.length; c++) {
            for (int what = 0; what <= 4; what++) {
                int number = c;
                int asked = what;
                only(x, "consumerOf(" + c + ", " + what + ")", () -> x.consumerOf(number, asked), wants[c][what]);
            }
        }
    }

    private static void heldEdges() {
        Recorded x = scene();
        the("29 held: BAD CONSUMER");
        refusedWith(x, "held(c, 0)", outside(0, 3), c -> x.held(c, 0), BAD);
        the("29 held: BAD: no i-th");
        refusedWith(x, "held(0, i)", outside(0, 0), i -> x.held(0, i), BAD);
        the("29 held: BAD: it has none OUT, it LEFT");
        refused(x, "held(1, 0)", () -> x.held(1, 0), BAD);
        refused(x, "held(3, 0)", () -> x.held(3, 0), BAD);
        the("29 held: by numbers, however they were GIVEN; the last one");
        Recorded y = simple(9, 1, 9, 0, 9);
        for (int key = 0; key < 8; key++) {
            y.publish(key, key % 4, 0);
        }
        y.giveAll(0);
        for (int i = 0; i < 8; i++) {
            due("held(0, " + i + ")", y.held(0, i), i);
        }
        refused(y, "held(0, 8)", () -> y.held(0, 8), BAD);
        the("29 held: BAD: all it had went");
        Recorded z = simple(1, 1, 9, 0, 1);
        z.publish(0, 0, 0);
        z.give(0);
        z.ack(0, 0);
        refused(z, "held(0, 0)", () -> z.held(0, 0), BAD);
        the("29 held: of a full QUEUE, the last one");
        Recorded w = simple(20, 1, 9, 0, 1);
        for (int m = 0; m < 20; m++) {
            w.publish(m < 19 ? 0 : 1, m < 19 ? 0 : 1, 0);
        }
        w.give(0);
        due("held(0, 0)", w.held(0, 0), 19);
        refused(w, "held(0, 1)", () -> w.held(0, 1), BAD);
        due("leave(0)", w.leave(0), 1);
    }

    private static void messageOfEdges() {
        Recorded x = scene();
        the("30 messageOf: BAD MESSAGE");
        refusedWith(x, "messageOf(m, 0)", outside(0, 4), m -> x.messageOf(m, 0), BAD);
        the("30 messageOf: BAD: less than 0 and more than 5 is asked");
        refusedWith(x, "messageOf(0, what)", outside(0, 5), what -> x.messageOf(0, what), BAD);
        the("30 messageOf: 0 to 5; TIME, and how many QUEUES have it");
        int[][] wants = {{1, 0, 10, 0, 1, 2}, {2, 3, 11, 0, 1, 2}, {3, 2, 12, 0, 1, 2}, {4, 1, 13, 0, 1, 2},
            {2, 0, 14, 6, 1, 2}};
        for (int m = 0; m < wants.length; m++) {
            for (int what = 0; what <= 5; what++) {
                due("messageOf(" + m + ", " + what + ")", x.messageOf(m, what), wants[m][what]);
            }
        }
        the("30 messageOf: no QUEUE has it any more, all of 8 have it");
        Recorded y = new Recorded();
        topic(y, "a.b.c.d");
        for (int q = 0; q < 8; q++) {
            queue(y, "#", 1, 1, 1, 0);
        }
        y.publish(0, 0, 0);
        due("messageOf(0, 4)", y.messageOf(0, 4), 8);
        for (int q = 0; q < 8; q++) {
            y.purge(q);
        }
        due("messageOf(0, 4)", y.messageOf(0, 4), 0);
        the("30 messageOf: how many parts its TOPIC has, 1 to 4, whatever was read since");
        due("messageOf(0, 5)", y.messageOf(0, 5), 4);
        topic(y, "a");
        y.publish(0, 0, 0);
        due("messageOf(1, 5)", y.messageOf(1, 5), 1);
        due("messageOf(0, 5)", y.messageOf(0, 5), 4);
    }

    private static void deadEdges() {
        Recorded x = scene();
        the("31 dead: BAD: no i-th");
        refusedWith(x, "dead(i, 0)", outside(0, 3), i -> x.dead(i, 0), BAD);
        the("31 dead: BAD: less than 0 and more than 3 is asked");
        refusedWith(x, "dead(0, what)", outside(0, 3), what -> x.dead(0, what), BAD);
        the("31 dead: 0 to 3, the first and the last");
        int[][] wants = {{2, 1, 0, 1}, {3, 1, 0, 1}, {1, 0, 3, 3}, {4, 1, 6, 1}};
        for (int i = 0; i < wants.length; i++) {
            for (int what = 0; what <= 3; what++) {
                due("dead(" + i + ", " + what + ")", x.dead(i, what), wants[i][what]);
            }
        }
    }

    private static void causeEdges() {
        Recorded x = scene();
        the("32 cause: BAD: nobody's");
        refusedWith(x, "cause(i, 0, 0)", outside(0, 3), i -> x.cause(i, 0, 0), BAD);
        the("32 cause: BAD: none such");
        refusedWith(x, "cause(2, link, 0)", outside(0, 2), link -> x.cause(2, link, 0), BAD);
        refusedWith(x, "cause(0, link, 0)", outside(0, 0), link -> x.cause(0, link, 0), BAD);
        the("32 cause: BAD: less than 0 and more than 1 is asked");
        refusedWith(x, "cause(2, 0, what)", outside(0, 1), what -> x.cause(2, 0, what), BAD);
        the("32 cause: 0 the last, to the first");
        int[][] wants = {{3, 3}, {3, 1}, {3, 0}};
        for (int link = 0; link < wants.length; link++) {
            due("cause(2, " + link + ", 0)", x.cause(2, link, 0), wants[link][0]);
            due("cause(2, " + link + ", 1)", x.cause(2, link, 1), wants[link][1]);
        }
        due("cause(3, 0, 0)", x.cause(3, 0, 0), 6);
        due("cause(3, 0, 1)", x.cause(3, 0, 1), 6);
    }

    // ---- 36 next, 37 blocked, 38 drained

    private static void nextEdges() {
        Recorded x = scene();
        the("36 next: BAD QUEUE");
        refusedWith(x, "next(q, 0)", outside(0, 2), q -> x.next(q, 0), BAD);
        the("36 next: BAD: less than 0 and more than 1 is asked, also where there is no NEXT");
        refusedWith(x, "next(0, what)", outside(0, 1), what -> x.next(0, what), BAD);
        refusedWith(x, "next(2, what)", outside(0, 1), what -> x.next(2, what), BAD);
        the("36 next: NONE: no NEXT, so nobody gets it; which isn't refused");
        only(x, "next(2, 0)", () -> x.next(2, 0), NONE);
        only(x, "next(2, 1)", () -> x.next(2, 1), NONE);
        Recorded y = simple(9, 1, 9, 0, 9);
        only(y, "next(0, 1) with CREDITS", () -> y.next(0, 1), NONE);
        the("36 next: NONE: a NEXT that nobody would get; which isn't refused");
        only(x, "next(1, 0)", () -> x.next(1, 0), 0);
        only(x, "next(1, 1)", () -> x.next(1, 1), NONE);
        the("36 next: message 0, consumer 0");
        y.publish(0, 0, 0);
        only(y, "next(0, 0)", () -> y.next(0, 0), 0);
        only(y, "next(0, 1)", () -> y.next(0, 1), 0);
    }

    private static void blockedEdges() {
        Recorded x = scene();
        the("37 blocked: BAD");
        refusedWith(x, "blocked(q)", outside(0, 2), q -> x.blocked(q), BAD);
        the("37 blocked: none: an empty QUEUE, none READY");
        only(x, "blocked(2)", () -> x.blocked(2), 0);
        Recorded y = simple(20, 3, 9, 0, 9);
        y.publish(0, 0, 0);
        y.give(0);
        only(y, "blocked(0) of one that is OUT", () -> y.blocked(0), 0);
        y.nack(0, 0);
        only(y, "blocked(0) of one that RESTS", () -> y.blocked(0), 0);
        the("37 blocked: a KEY of which the first MAY be GIVEN isn't");
        Recorded z = simple(20, 3, 9, 0, 9);
        for (int k = 0; k < 16; k++) {
            z.publish(k % 8, 0, 0);
        }
        only(z, "blocked(0)", () -> z.blocked(0), 0);
        the("37 blocked: KEYS 0 to 7, all of them, whoever has CREDITS");
        due("giveAll(0)", z.giveAll(0), 8);
        only(z, "blocked(0)", () -> z.blocked(0), 0b11111111);
        the("37 blocked: KEY 0 alone, KEY 7 alone");
        for (int m = 1; m <= 6; m++) {
            z.ack(0, m);
        }
        only(z, "blocked(0)", () -> z.blocked(0), 0b10000001);
        z.ack(0, 0);
        only(z, "blocked(0)", () -> z.blocked(0), 0b10000000);
        the("37 blocked: KEY 1, behind one that RESTS");
        y.publish(1, 0, 0);
        y.publish(1, 0, 0);
        y.give(0);
        y.nack(0, 1);
        only(y, "blocked(0)", () -> y.blocked(0), 0b00000010);
    }

    private static void drainedEdges() {
        Recorded x = scene();
        the("38 drained: BAD");
        refusedWith(x, "drained(q, 0)", outside(0, 2), q -> x.drained(q, 0), BAD);
        the("38 drained: NONE: none such, which isn't refused");
        for (int i : outside(0, 0)) {
            only(x, "drained(1, " + i + ")", () -> x.drained(1, i), NONE);
        }
        only(x, "drained(2, 0) of an empty QUEUE", () -> x.drained(2, 0), NONE);
        the("38 drained: the first, whoever would get it");
        only(x, "drained(1, 0), nobody has CREDITS", () -> x.drained(1, 0), 0);
        the("38 drained: the 20th");
        Recorded y = simple(20, 1, 9, 0, 0);
        for (int m = 0; m < 20; m++) {
            y.publish(m % 8, m % 4, 0);
        }
        int[] order = {3, 7, 11, 15, 19, 2, 6, 10, 14, 18, 1, 5, 9, 13, 17, 0, 4, 8, 12, 16};
        for (int i = 0; i < order.length; i++) {
            due("drained(0, " + i + ")", y.drained(0, i), order[i]);
        }
        for (int i : outside(0, 19)) {
            only(y, "drained(0, " + i + ")", () -> y.drained(0, i), NONE);
        }
    }

    private static void drainedChanges() {
        the("38 drained: one goes at once, so the next of its KEY may, be it of a greater PRIORITY");
        Recorded x = simple(20, 3, 9, 0, 9);
        int[][] sent = {{0, 0}, {0, 3}, {1, 1}, {0, 2}, {1, 0}};
        for (int[] one : sent) {
            x.publish(one[0], one[1], 0);
        }
        int[] order = {2, 0, 1, 3, 4, NONE};
        for (int i = 0; i < order.length; i++) {
            due("drained(0, " + i + ")", x.drained(0, i), order[i]);
        }
        the("38 drained: what is OUT or RESTS stays, and what is behind it with its KEY");
        x.give(0);
        x.give(0);
        x.nack(0, 0);
        only(x, "drained(0, 0)", () -> x.drained(0, 0), NONE);
        x.pass(1);
        int[] then = {0, 1, 3, NONE};
        for (int i = 0; i < then.length; i++) {
            due("drained(0, " + i + ")", x.drained(0, i), then[i]);
        }
    }

    // ---- 39 until, 40 doomed

    private static void untilRefusals() {
        Recorded x = scene();
        the("39 until: BAD");
        refusedWith(x, "until(q)", outside(0, 2), q -> x.until(q), BAD);
        the("39 until: NONE: an empty QUEUE, which isn't refused");
        only(x, "until(2)", () -> x.until(2), NONE);
        the("39 until: 0: there is a NEXT, whoever gets it");
        only(x, "until(0)", () -> x.until(0), 0);
        only(x, "until(1)", () -> x.until(1), 0);
    }

    private static void untilEdges() {
        the("39 until: 1, 2, 3, 5: one that RESTS");
        Recorded x = simple(9, 5, 9, 0, 9);
        x.pass(30);
        x.publish(0, 0, 0);
        for (int wait : new int[] {1, 2, 3, 5}) {
            x.give(0);
            x.nack(0, 0);
            for (int left = wait; left >= 0; left--) {
                due("until(0)", x.until(0), left);
                x.pass(left > 0 ? 1 : 0);
            }
        }
        the("39 until: 99 at most: a LEASE of 98 and a WAIT of 1");
        Recorded y = simple(9, 2, 98, 0, 9);
        y.publish(0, 0, 0);
        y.give(0);
        only(y, "until(0)", () -> y.until(0), 99);
        due("pass(98)", y.pass(98), 0);
        only(y, "until(0)", () -> y.until(0), 1);
        the("39 until: NONE: a LEASE of 99 and a WAIT of 1");
        Recorded z = simple(9, 2, 99, 0, 9);
        z.publish(0, 0, 0);
        z.give(0);
        only(z, "until(0)", () -> z.until(0), NONE);
        z.pass(1);
        only(z, "until(0)", () -> z.until(0), 99);
        the("39 until: 99: one dies by its LEASE of 99, so the next of its KEY may");
        Recorded w = simple(9, 1, 99, 0, 9);
        w.publish(0, 0, 0);
        w.give(0);
        only(w, "until(0) of what dies alone", () -> w.until(0), NONE);
        w.publish(0, 0, 0);
        only(w, "until(0)", () -> w.until(0), 99);
        due("pass(99)", w.pass(99), 1);
        due("next(0, 0)", w.next(0, 0), 1);
        the("39 until: the WAIT of a LEASE's end goes with how often it FAILED");
        Recorded v = simple(9, 4, 10, 0, 9);
        v.publish(0, 0, 0);
        v.give(0);
        v.nack(0, 0);
        v.pass(1);
        v.give(0);
        only(v, "until(0)", () -> v.until(0), 12);
    }

    private static void untilByKeys() {
        the("39 until: another KEY's LETTER ahead doesn't matter");
        Recorded x = simple(9, 3, 50, 0, 1);
        x.publish(0, 0, 0);
        x.give(0);
        x.publish(1, 0, 0);
        only(x, "until(0)", () -> x.until(0), 0);
        the("39 until: the least of several");
        Recorded y = simple(9, 3, 50, 0, 9);
        y.publish(0, 0, 0);
        y.publish(1, 0, 0);
        y.publish(0, 0, 0);
        y.give(0);
        y.give(0);
        only(y, "until(0)", () -> y.until(0), 51);
        y.nack(0, 1);
        only(y, "until(0)", () -> y.until(0), 1);
        the("39 until: one that is READY behind one of its KEY that comes first");
        Recorded z = simple(9, 2, 50, 0, 9);
        z.publish(0, 0, 0);
        z.publish(0, 3, 0);
        z.give(0);
        only(z, "until(0)", () -> z.until(0), 51);
        z.pass(51);
        due("next(0, 0)", z.next(0, 0), 0);
    }

    private static void untilByAges() {
        the("39 until: NONE: OLD as soon as it is READY");
        Recorded x = simple(9, 3, 4, 5, 9);
        x.publish(0, 0, 0);
        x.give(0);
        only(x, "until(0)", () -> x.until(0), NONE);
        the("39 until: READY one TIME ahead of its AGE");
        Recorded y = simple(9, 3, 4, 6, 9);
        y.publish(0, 0, 0);
        y.give(0);
        only(y, "until(0)", () -> y.until(0), 5);
        due("pass(5)", y.pass(5), 0);
        due("next(0, 0)", y.next(0, 0), 0);
        the("39 until: one dies by OLD, so the next of its KEY may, if it isn't as old");
        Recorded z = simple(9, 3, 4, 5, 9);
        z.publish(0, 0, 0);
        z.give(0);
        z.publish(0, 0, 0);
        only(z, "until(0), both as old", () -> z.until(0), NONE);
        z.pass(1);
        z.publish(0, 0, 0);
        only(z, "until(0)", () -> z.until(0), 4);
        z.pass(3);
        due("next(0, 0)", z.next(0, 0), NONE);
        z.pass(1);
        due("next(0, 0)", z.next(0, 0), 2);
        the("39 until: 0: one that is overdue is NEXT, as long as no TIME PASSES");
        Recorded w = simple(9, 3, 9, 2, 9);
        w.publish(0, 0, 0);
        w.give(0);
        w.pass(3);
        w.leave(0);
        only(w, "until(0)", () -> w.until(0), 0);
    }

    private static void doomedRefusals() {
        Recorded x = scene();
        the("40 doomed: BAD n (0 to 99)");
        refusedWith(x, "doomed(n)", outside(0, 99), n -> x.doomed(n), BAD);
        the("40 doomed: no QUEUES");
        Recorded y = new Recorded();
        only(y, "doomed(0)", () -> y.doomed(0), 0);
        only(y, "doomed(99)", () -> y.doomed(99), 0);
        the("40 doomed: 0: none, also where one is overdue");
        Recorded z = simple(9, 3, 9, 2, 9);
        z.publish(0, 0, 0);
        z.give(0);
        z.pass(3);
        z.leave(0);
        only(z, "doomed(0)", () -> z.doomed(0), 0);
        only(z, "doomed(1)", () -> z.doomed(1), 1);
    }

    private static void doomedEdges() {
        the("40 doomed: by OLD, at the TIME itself");
        Recorded x = simple(9, 3, 9, 7, 0);
        x.pass(4);
        x.publish(0, 0, 0);
        only(x, "doomed(6)", () -> x.doomed(6), 0);
        only(x, "doomed(7)", () -> x.doomed(7), 1);
        the("40 doomed: by LATE for the last time, at the TIME itself");
        Recorded y = simple(9, 1, 99, 0, 9);
        y.publish(0, 0, 0);
        y.give(0);
        only(y, "doomed(98)", () -> y.doomed(98), 0);
        only(y, "doomed(99)", () -> y.doomed(99), 1);
        the("40 doomed: LATE, RESTING, READY and OLD then");
        Recorded z = simple(9, 2, 10, 3, 9);
        z.publish(0, 0, 0);
        z.give(0);
        only(z, "doomed(10)", () -> z.doomed(10), 0);
        only(z, "doomed(11)", () -> z.doomed(11), 1);
        the("40 doomed: RESTING, READY and OLD then");
        z.nack(0, 0);
        only(z, "doomed(2)", () -> z.doomed(2), 0);
        only(z, "doomed(3)", () -> z.doomed(3), 1);
        the("40 doomed: of all QUEUES, more than 30");
        Recorded w = new Recorded();
        topic(w, "a");
        for (int q = 0; q < 8; q++) {
            queue(w, "#", 20, 1, 1, 1 + q);
        }
        for (int m = 0; m < 20; m++) {
            w.publish(0, 0, 0);
        }
        for (int n = 0; n <= 9; n++) {
            due("doomed(" + n + ")", w.doomed(n), Math.min(n, 8) * 20);
        }
        due("pass(9)", w.pass(9), 160);
    }

    // ---- 41 judge

    /** Queue 0 drained: 2, 1, 0; SHELF 0 holds bytes so, 1 a cause, 2 NOTHING; queue 1 is empty. */
    private static Recorded told() {
        Recorded x = new Recorded();
        queue(x, "a", 3, 1, 1, 0);
        queue(x, "b", 3, 1, 1, 0);
        topic(x, "a");
        for (int m = 0; m < 4; m++) {
            x.publish(m, m, 0);
        }
        x.row(0, BYTES, 5);
        for (int i = 0; i < 3; i++) {
            x.set(0, i, 2 - i);
        }
        x.show(1, 0, 0);
        return x;
    }

    private static void judgeRefusals() {
        Recorded x = told();
        the("41 judge: BAD QUEUE");
        refusedWith(x, "judge(q, 0, 1)", outside(0, 1), q -> x.judge(q, 0, 1), BAD);
        the("41 judge: BAD SHELF");
        refusedWith(x, "judge(0, s, 1)", outside(0, 7), s -> x.judge(0, s, 1), BAD);
        the("41 judge: BAD n (0 to 40)");
        refusedWith(x, "judge(0, 0, n)", outside(0, 40), n -> x.judge(0, 0, n), BAD);
        the("41 judge: BAD n ahead of OTHER");
        refusedWith(x, "judge(0, 1, n)", outside(0, 40), n -> x.judge(0, 1, n), BAD);
        the("41 judge: BAD QUEUE ahead of OTHER and NOTHING");
        refused(x, "judge(2, 1, 1)", () -> x.judge(2, 1, 1), BAD);
        refused(x, "judge(2, 2, 1)", () -> x.judge(2, 2, 1), BAD);
        the("41 judge: BAD n ahead of NOTHING");
        refusedWith(x, "judge(0, 2, n)", outside(0, 40), n -> x.judge(0, 2, n), BAD);
        the("41 judge: OTHER, a cause, whatever n is");
        refusedWith(x, "judge(0, 1, n)", new int[] {0, 1, 40}, n -> x.judge(0, 1, n), OTHER);
        the("41 judge: NOTHING, whatever n is");
        refusedWith(x, "judge(0, 2, n)", new int[] {0, 1, 40}, n -> x.judge(0, 2, n), NOTHING);
        the("41 judge: BAD: fewer elements");
        refusedWith(x, "judge(0, 0, n)", new int[] {6, 40}, n -> x.judge(0, 0, n), BAD);
        x.row(3, BYTES, 0);
        refused(x, "judge(0, 3, 1)", () -> x.judge(0, 3, 1), BAD);
    }

    private static void judgeEdges() {
        Recorded x = told();
        the("41 judge: NONE: as it is, which isn't refused");
        only(x, "judge(0, 0, 3)", () -> x.judge(0, 0, 3), NONE);
        the("41 judge: n, if the QUEUE has more");
        only(x, "judge(0, 0, 0)", () -> x.judge(0, 0, 0), 0);
        only(x, "judge(0, 0, 1)", () -> x.judge(0, 0, 1), 1);
        only(x, "judge(0, 0, 2)", () -> x.judge(0, 0, 2), 2);
        the("41 judge: an element behind the last MESSAGE");
        only(x, "judge(0, 0, 4)", () -> x.judge(0, 0, 4), 3);
        only(x, "judge(0, 0, 5)", () -> x.judge(0, 0, 5), 3);
        the("41 judge: no element and an empty QUEUE");
        only(x, "judge(1, 0, 0)", () -> x.judge(1, 0, 0), NONE);
        x.row(3, BYTES, 0);
        only(x, "judge(1, 3, 0)", () -> x.judge(1, 3, 0), NONE);
        only(x, "judge(0, 3, 0)", () -> x.judge(0, 3, 0), 0);
        the("41 judge: the first that isn't, of several: the first element, the last");
        x.set(0, 2, 7);
        only(x, "judge(0, 0, 3)", () -> x.judge(0, 0, 3), 2);
        only(x, "judge(0, 0, 2), it isn't looked at", () -> x.judge(0, 0, 2), 2);
        x.set(0, 0, 1);
        only(x, "judge(0, 0, 3)", () -> x.judge(0, 0, 3), 0);
        the("41 judge: 40 elements, 20 LETTERS");
        Recorded y = simple(20, 1, 1, 0, 0);
        y.row(7, LONGS, 40);
        for (int m = 0; m < 20; m++) {
            y.publish(0, 0, 0);
            y.set(7, m, m);
        }
        only(y, "judge(0, 7, 40)", () -> y.judge(0, 7, 40), 20);
        only(y, "judge(0, 7, 20)", () -> y.judge(0, 7, 20), NONE);
        only(y, "judge(0, 7, 19)", () -> y.judge(0, 7, 19), 19);
        the("41 judge: a LETTER that is OUT isn't DRAINED");
        Recorded z = simple(20, 1, 9, 0, 1);
        z.publish(0, 0, 0);
        z.publish(0, 0, 0);
        z.row(0, BYTES, 1);
        z.give(0);
        only(z, "judge(0, 0, 1)", () -> z.judge(0, 0, 1), 0);
        only(z, "judge(0, 0, 0)", () -> z.judge(0, 0, 0), NONE);
    }

    private static void judgeSorts() {
        the("41 judge: an element is what the ROW keeps of it: longs all their bits");
        Recorded x = told();
        x.row(3, LONGS, 3);
        x.set(3, 0, 2 + (1L << 32));
        only(x, "judge(0, 3, 1)", () -> x.judge(0, 3, 1), 0);
        the("41 judge: an element is what the ROW keeps of it: bytes their lowest ones");
        x.set(0, 0, 2 + 256);
        only(x, "judge(0, 0, 3)", () -> x.judge(0, 0, 3), NONE);
        the("41 judge: an element is what the ROW keeps of it: booleans 1, 0");
        Recorded y = simple(9, 1, 1, 0, 0);
        y.publish(0, 0, 0);
        y.publish(1, 0, 0);
        y.row(0, BOOLEANS, 2);
        y.set(0, 1, 55);
        only(y, "judge(0, 0, 2)", () -> y.judge(0, 0, 2), NONE);
        the("41 judge: MESSAGE 200 is no byte");
        Recorded z = simple(20, 1, 1, 0, 0);
        for (int m = 0; m < 200; m++) {
            z.publish(0, 0, 0);
        }
        z.purge(0);
        z.publish(0, 0, 0);
        due("drained(0, 0)", z.drained(0, 0), 200);
        z.row(0, BYTES, 1);
        z.set(0, 0, 200);
        only(z, "judge(0, 0, 1)", () -> z.judge(0, 0, 1), 0);
        z.row(0, 1, 1);
        z.set(0, 0, 200);
        only(z, "judge(0, 0, 1)", () -> z.judge(0, 0, 1), NONE);
    }

    // ---- 42 days, 43 seed

    private static int seedBehind(int seed) {
        return (int) (seed * 1103515245L + 12345L);
    }

    /** The SEED behind which the next one is this. */
    private static int seedAhead(int seed) {
        BigInteger ints = BigInteger.ONE.shiftLeft(32);
        return BigInteger.valueOf(seed).subtract(BigInteger.valueOf(12345))
            .multiply(BigInteger.valueOf(1103515245).modInverse(ints)).mod(ints).intValue();
    }

    private static int seedBehind(int seed, int draws) {
        int then = seed;
        for (int k = 0; k < draws; k++) {
            then = seedBehind(then);
        }
        return then;
    }

    /** The least SEED with these DRAWS: pairs of a number below which is drawn and what is drawn. */
    private static int seedFor(int... draws) {
        for (int seed = 0; seed < 10_000_000; seed++) {
            int then = seed;
            boolean is = true;
            for (int k = 0; k < draws.length && is; k += 2) {
                then = seedBehind(then);
                is = (then >>> 16) % draws[k] == draws[k + 1];
            }
            if (is) {
                return seed;
            }
        }
        throw new IllegalStateException("no seed draws so");
    }

    private static void daysNumbers() {
        Recorded x = scene();
        the("42 days: BAD n (1 to 60), nothing is drawn");
        refusedWith(x, "days(n)", outside(1, 60), n -> x.days(n), BAD);
        the("42 days: 1, and 60");
        Recorded y = new Recorded();
        due("days(1)", y.days(1), 0);
        due("NOW", y.status(4), 1);
        due("days(60)", y.days(60), 0);
        due("NOW", y.status(4), 61);
        the("42 days: 60 is as 1 and 59");
        Recorded one = scene();
        Recorded two = scene();
        due("days", one.days(60), two.days(1) + two.days(59));
        dueAlike("state", one.state(), two.state());
    }

    private static void daysOfNothing() {
        the("42 days: where there is no TOPIC, nothing is drawn for it, and nothing done");
        for (int deed = 0; deed <= 1; deed++) {
            Recorded x = new Recorded();
            queue(x, "#", 1, 1, 1, 0);
            dueDay(x, seedFor(6, deed), 0, 1);
            due("messages", x.status(2), 0);
        }
        the("42 days: where there are 300 MESSAGES, nothing is drawn for it, and nothing done");
        Recorded full = new Recorded();
        topic(full, "a");
        for (int m = 0; m < 299; m++) {
            full.publish(0, 0, 0);
        }
        dueDay(full, seedFor(6, 0), 1, 4);
        due("messages, the 300th", full.status(2), 300);
        dueDay(full, seedFor(6, 0), 0, 1);
        dueDay(full, seedFor(6, 1), 0, 1);
        due("messages", full.status(2), 300);
        the("42 days: where there are no QUEUES, nothing is drawn for it, and nothing done");
        for (int deed = 2; deed <= 3; deed++) {
            Recorded x = new Recorded();
            topic(x, "a");
            dueDay(x, seedFor(6, deed), 0, 1);
        }
        the("42 days: where there are no CONSUMERS, nothing is drawn for it, and nothing done");
        for (int deed = 4; deed <= 5; deed++) {
            Recorded x = new Recorded();
            queue(x, "#", 1, 1, 1, 0);
            topic(x, "a");
            x.publish(0, 0, 0);
            dueDay(x, seedFor(6, deed), 0, 1);
        }
    }

    /** From this SEED a day does something (1) or not (0), with so many DRAWS, and TIME PASSES by 1. */
    private static void dueDay(Recorded x, int seed, int did, int draws) {
        x.seed(seed);
        int now = x.status(4);
        due("days(1)", x.days(1), did);
        due("SEED behind " + draws + " draws", x.status(9), seedBehind(seed, draws));
        due("NOW", x.status(4), now + 1);
    }

    private static void daysThatPublish() {
        the("42 days: 0, 1: PUBLISHED, with a KEY below 8, a PRIORITY below 4, a VALUE below 100");
        int[][] drawn = {{0, 0, 0, 0}, {1, 7, 3, 99}, {0, 7, 0, 99}, {1, 0, 3, 0}, {0, 4, 2, 50}};
        for (int[] one : drawn) {
            Recorded x = new Recorded();
            queue(x, "a", 1, 1, 1, 0);
            topic(x, "a");
            dueDay(x, seedFor(6, one[0], 8, one[1], 4, one[2], 100, one[3]), 1, 4);
            for (int what = 0; what <= 2; what++) {
                due("messageOf(0, " + what + ")", x.messageOf(0, what), one[what + 1]);
            }
            due("TIME", x.messageOf(0, 3), 0);
            due("letters", x.status(5), 1);
        }
        the("42 days: PUBLISHED, though it fits no QUEUE, is something done");
        Recorded y = new Recorded();
        topic(y, "a");
        dueDay(y, seedFor(6, 0), 1, 4);
        due("messages", y.status(2), 1);
        the("42 days: PUBLISHED into a QUEUE at its LIMIT: DEAD at once");
        Recorded z = simple(1, 1, 1, 0, 0);
        z.publish(0, 0, 0);
        dueDay(z, seedFor(6, 1), 1, 4);
        due("DEAD", z.status(3), 1);
        due("cause(0, 0, 0)", z.cause(0, 0, 0), 6);
    }

    private static void daysThatGive() {
        the("42 days: 2, 3: of the QUEUE of a DRAW, the NEXT is GIVEN: the first, the last");
        for (int deed = 2; deed <= 3; deed++) {
            for (int drawn = 0; drawn < 3; drawn++) {
                Recorded x = threeQueues(9);
                dueDay(x, seedFor(6, deed, 3, drawn), 1, 2);
                for (int q = 0; q < 3; q++) {
                    due("OUT of QUEUE " + q, x.queueOf(q, 3), q == drawn ? 1 : 0);
                }
            }
        }
        the("42 days: 2, 3: there is no NEXT, or nobody gets it: nothing done");
        Recorded y = threeQueues(9);
        y.purge(1);
        dueDay(y, seedFor(6, 2, 3, 1), 0, 2);
        y.leave(2);
        dueDay(y, seedFor(6, 3, 3, 2), 0, 2);
        due("GIVEN", y.queueOf(0, 8) + y.queueOf(1, 8) + y.queueOf(2, 8), 0);
        the("42 days: 8 QUEUES");
        Recorded z = threeQueues(9);
        for (int q = 3; q < 8; q++) {
            queue(z, "a", 1, 1, 9, 0);
        }
        dueDay(z, seedFor(6, 2, 8, 7), 0, 2);
        z.publish(1, 0, 0);
        z.consumer(7);
        z.credit(3, 1);
        dueDay(z, seedFor(6, 2, 8, 7), 1, 2);
        due("OUT", z.queueOf(7, 3), 1);
    }

    /** Three queues, each with a letter and with a consumer with a credit. */
    private static Recorded threeQueues(int lease) {
        Recorded x = new Recorded();
        topic(x, "a");
        for (int q = 0; q < 3; q++) {
            queue(x, "a", 5, 2, lease, 0);
            x.consumer(q);
            x.credit(q, 1);
        }
        x.publish(0, 0, 0);
        return x;
    }

    private static void daysThatAnswer() {
        the("42 days: 4: of the CONSUMER of a DRAW, the first LETTER it has OUT is ACKNOWLEDGED");
        for (int drawn = 0; drawn < 3; drawn++) {
            Recorded x = threeQueues(9);
            x.giveAll(0);
            x.giveAll(1);
            x.giveAll(2);
            dueDay(x, seedFor(6, 4, 3, drawn), 1, 2);
            for (int q = 0; q < 3; q++) {
                due("ACKNOWLEDGED", x.queueOf(q, 9), q == drawn ? 1 : 0);
                due("CREDITS", x.consumerOf(q, 1), q == drawn ? 1 : 0);
            }
        }
        the("42 days: 5: it is REFUSED likewise, by REJECTED");
        Recorded y = threeQueues(99);
        y.giveAll(1);
        y.pass(2);
        dueDay(y, seedFor(6, 5, 3, 1), 1, 2);
        due("FAILED", y.letter(1, 0, 2), 1);
        due("CREDITS", y.consumerOf(1, 1), 1);
        y.giveAll(1);
        dueDay(y, seedFor(6, 5, 3, 1), 1, 2);
        int[][] causes = {{3, 3}, {3, 2}};
        for (int link = 0; link < causes.length; link++) {
            due("cause(0, " + link + ", 0)", y.cause(0, link, 0), causes[link][0]);
            due("cause(0, " + link + ", 1)", y.cause(0, link, 1), causes[link][1]);
        }
        the("42 days: 4, 5: it has none OUT, or LEFT: nothing done, but drawn");
        Recorded z = threeQueues(9);
        z.giveAll(0);
        z.leave(2);
        for (int deed = 4; deed <= 5; deed++) {
            dueDay(z, seedFor(6, deed, 3, 1), 0, 2);
            dueDay(z, seedFor(6, deed, 3, 2), 0, 2);
        }
        the("42 days: 4, 5: all it had went: nothing done, but drawn");
        Recorded v = threeQueues(9);
        v.giveAll(1);
        v.ack(1, 0);
        dueDay(v, seedFor(6, 4, 3, 1), 0, 2);
        dueDay(v, seedFor(6, 5, 3, 1), 0, 2);
        the("42 days: 4: the first by numbers, not the first GIVEN");
        Recorded w = simple(9, 1, 9, 0, 9);
        w.publish(0, 0, 0);
        w.publish(1, 3, 0);
        w.giveAll(0);
        dueDay(w, seedFor(6, 4), 1, 2);
        due("held(0, 0)", w.held(0, 0), 1);
    }

    private static void daysEnd() {
        the("42 days: then TIME PASSES by 1: what is GIVEN for a LEASE of 1 is LATE at once");
        Recorded x = threeQueues(1);
        dueDay(x, seedFor(6, 2, 3, 0), 1, 2);
        due("FAILED", x.letter(0, 0, 2), 1);
        due("RESTING till", x.letter(0, 0, 4), 2);
        the("42 days: what only TIME does isn't something that a DAY did");
        Recorded y = simple(9, 1, 1, 1, 0);
        y.publish(0, 0, 0);
        dueDay(y, seedFor(6, 4), 0, 2);
        due("DEAD", y.status(3), 1);
    }

    private static void drawsWrap() {
        the("42 days: the upper 16 bits of SEED have no sign: all of them are set, the first alone");
        // 65535 and 32768 below 6: 3 and 2, one is GIVEN
        dueDay(threeQueues(9), seedAhead(-1), 1, 2);
        dueDay(threeQueues(9), seedAhead(LEAST), 1, 2);
        the("42 days: the upper 16 bits of SEED have no sign: KEY, PRIORITY and VALUE");
        for (int upper : new int[] {32766, 32772, 65526, 65532}) {
            Recorded z = new Recorded();
            topic(z, "a");
            int seed = seedAhead(upper << 16);
            dueDay(z, seed, upper % 6 < 2 ? 1 : 0, upper % 6 < 2 ? 4 : 1);
            int key = seedBehind(seed, 2) >>> 16;
            int priority = seedBehind(seed, 3) >>> 16;
            int value = seedBehind(seed, 4) >>> 16;
            due("messageOf(0, 0)", z.messageOf(0, 0), key % 8);
            due("messageOf(0, 1)", z.messageOf(0, 1), priority % 4);
            due("messageOf(0, 2)", z.messageOf(0, 2), value % 100);
        }
        the("42 days: SEED wraps around");
        for (int seed : new int[] {MOST, LEAST, -1, 0, 1, 1 << 16}) {
            Recorded z = new Recorded();
            dueDay(z, seed, 0, 1);
        }
    }

    private static void seedEdges() {
        the("43 seed: any int, the one ahead, 1 at first");
        Recorded x = new Recorded();
        int ahead = 1;
        for (int seed : new int[] {LEAST, MOST, 0, -1, 1}) {
            due("seed(" + seed + ")", x.seed(seed), ahead);
            due("status(9)", x.status(9), seed);
            ahead = seed;
        }
        the("43 seed: 0 becomes 12345 by a DRAW");
        Recorded y = new Recorded();
        y.seed(0);
        y.days(1);
        due("seed(5)", y.seed(5), 12345);
    }

    // ---- 44 image, 45 back

    private static void backOfNothing() {
        the("45 back: STUCK: nothing was kept");
        Recorded x = new Recorded();
        queue(x, "#", 1, 1, 1, 0);
        refused(x, "back()", () -> x.back(), STUCK);
        the("45 back: again and again");
        due("image()", x.image(), 1);
        List<String> kept = x.state();
        for (int k = 0; k < 3; k++) {
            topic(x, "a");
            x.publish(k, 0, 0);
            x.days(30);
            due("back()", x.back(), 1);
            dueAlike("state", x.state(), kept);
        }
        the("45 back: nothing has changed since");
        due("back()", x.back(), 1);
        dueAlike("state", x.state(), kept);
        the("44 image: the last one is kept, an earlier one is no more");
        x.pass(3);
        due("image()", x.image(), 1);
        x.pass(4);
        due("back()", x.back(), 1);
        due("NOW", x.status(4), 3);
        the("44 image: image of what back() brought");
        x.image();
        x.pass(9);
        x.back();
        due("NOW", x.status(4), 3);
    }

    private static void imageKeepsAll() {
        the("44 image: all is kept, whatever comes then");
        Recorded x = scene();
        x.image();
        List<String> kept = x.state();
        x.wipe();
        queue(x, "z.#", 9, 4, 3, 0);
        topic(x, "z");
        x.exclusive(0, 1);
        x.exclusive(1, 0);
        x.consumer(3);
        x.credit(4, 9);
        x.leave(0);
        x.publish(7, 3, 99);
        x.giveAll(3);
        x.purge(0);
        x.purge(1);
        x.bury(NONE);
        x.seed(3);
        x.days(60);
        x.back();
        dueAlike("state", x.state(), kept);
        the("45 back: the numbers of QUEUES and CONSUMERS that went come again");
        due("queue(9, 4, 3, 0)", queue(x, "y", 9, 4, 3, 0), 3);
        due("consumer(3)", x.consumer(3), 4);
    }

    private static void imageKeepsLetters() {
        the("44 image: LETTERS are kept, though others stood in their places since");
        Recorded x = lettersOfAllSorts();
        List<String> want = x.state();
        x.image();
        x.leave(0);
        x.purge(0);
        for (int m = 0; m < 5; m++) {
            x.publish(7 - m, m % 4, m);
        }
        x.consumer(0);
        x.credit(1, 9);
        x.giveAll(0);
        x.ack(1, 9);
        x.pass(9);
        due("back()", x.back(), 1);
        dueAlike("state", x.state(), want);
        the("44 image: LETTERS of all PRIORITIES are kept in a full QUEUE, DRAINED as ahead");
        Recorded z = simple(20, 3, 9, 0, 0);
        for (int m = 0; m < 20; m++) {
            z.publish(m % 8, m % 3, 0);
        }
        z.image();
        List<String> full = z.state();
        z.purge(0);
        for (int m = 0; m < 20; m++) {
            z.publish((m + 3) % 8, 3 - m % 4, 0);
        }
        z.back();
        dueAlike("state", z.state(), full);
        the("45 back: what comes then is as it would have come");
        Recorded y = lettersOfAllSorts();
        for (Recorded one : new Recorded[] {x, y}) {
            one.give(0);
            one.nack(0, 3);
            one.pass(30);
            one.giveAll(0);
            one.days(20);
        }
        dueAlike("state", x.state(), y.state());
    }

    /** Letters that FAILED or not, of keys, priorities and times, in all states; one was acknowledged. */
    private static Recorded lettersOfAllSorts() {
        Recorded x = simple(20, 3, 9, 40, 9);
        x.publish(0, 3, 0);
        x.give(0);
        x.nack(0, 0);
        x.pass(1);
        x.give(0);
        x.pass(9);
        x.publish(1, 2, 0);
        x.publish(2, 1, 0);
        x.publish(3, 0, 0);
        x.give(0);
        x.give(0);
        x.ack(0, 2);
        x.nack(0, 1);
        x.pass(1);
        x.publish(3, 3, 0);
        x.give(0);
        return x;
    }

    private static void imageKeepsConsumers() {
        the("44 image: CONSUMERS are kept, the first and the last of 10, and who got the latest");
        Recorded x = new Recorded();
        queue(x, "#", 20, 3, 9, 0);
        topic(x, "a");
        for (int c = 0; c < 10; c++) {
            x.consumer(0);
            x.credit(c, 2);
        }
        for (int key = 0; key < 8; key++) {
            x.publish(key, 0, 0);
        }
        x.give(0);
        x.give(0);
        x.image();
        List<String> kept = x.state();
        due("next(0, 1)", x.next(0, 1), 2);
        x.give(0);
        x.give(0);
        x.ack(0, 0);
        x.leave(0);
        x.leave(9);
        x.credit(8, 3);
        x.back();
        dueAlike("state", x.state(), kept);
        due("next(0, 1)", x.next(0, 1), 2);
    }

    private static void imageKeepsDead() {
        the("44 image: THE DEAD are kept, though others stood in their places since; all 30");
        Recorded x = simple(1, 1, 9, 0, 9);
        for (int m = 0; m < 32; m++) {
            x.publish(m % 8, m % 4, m);
        }
        due("DEAD", x.status(3), 30);
        x.image();
        List<String> kept = x.state();
        x.bury(NONE);
        x.pass(5);
        for (int m = 0; m < 20; m++) {
            x.publish(7, 0, 0);
        }
        x.give(0);
        x.nack(0, 0);
        x.back();
        dueAlike("state", x.state(), kept);
        the("44 image: CAUSES are kept, though they are CAUSES of others since");
        Recorded y = withCauses();
        y.image();
        List<String> causes = y.state();
        y.bury(0);
        y.revive(0);
        y.publish(0, 0, 0);
        y.back();
        dueAlike("state", y.state(), causes);
    }

    private static void imageKeepsNot() {
        the("44 image: THE TAPE isn't kept: it stays as it is");
        Recorded x = scene();
        x.image();
        x.feed('.');
        x.feed('e');
        x.back();
        due("status(8)", x.status(8), 5);
        due("topic()", x.topic(), 3);
        x.back();
        due("status(8), empty", x.status(8), 0);
        due("status(7), THE TOPIC of then", x.status(7), 2);
        the("44 image: SHELVES aren't kept: they stay as they are");
        x.show(0, NONE, 0);
        x.row(7, BYTES, 1);
        x.set(7, 0, 9);
        x.set(1, 0, -3);
        x.bury(NONE);
        x.back();
        due("holds(0)", x.holds(0), NONE);
        due("element(7, 0)", x.element(7, 0), 9);
        due("element(1, 0)", x.element(1, 0), -3);
        due("holds(2)", x.holds(2), 16);
        the("44 image: REFUSALS aren't kept: they stay as they are");
        int[] before = x.refusals();
        x.give(99);
        x.back();
        x.set(2, 0, 0);
        x.back();
        due("-82", x.status(12), before[0] + 1);
        due("-83", x.status(13), before[1] + 1);
    }

    private static void imageOfLess() {
        the("44 image: of a new object; what is made behind back() has nothing of what went");
        Recorded x = new Recorded();
        due("image()", x.image(), 1);
        queue(x, "a.b.#", 20, 5, 9, 3);
        x.exclusive(0, 1);
        topic(x, "a.b");
        x.consumer(0);
        x.credit(0, 9);
        x.publish(3, 1, 5);
        x.publish(1, 1, 5);
        x.giveAll(0);
        x.ack(0, 1);
        x.pass(20);
        x.seed(8);
        x.leave(0);
        due("back()", x.back(), 1);
        dueAlike("state", x.state(), new Recorded().state());
        refused(x, "fits()", () -> x.fits(), STUCK);
        refused(x, "messageOf(0, 0)", () -> x.messageOf(0, 0), BAD);
        Recorded fresh = new Recorded();
        for (Recorded one : new Recorded[] {x, fresh}) {
            queue(one, "*", 2, 2, 5, 0);
            topic(one, "z");
            one.consumer(0);
            one.consumer(0);
            one.credit(0, 1);
            one.credit(1, 1);
            one.publish(6, 2, -4);
        }
        dueAlike("state, as of a new object", x.state(), fresh.state());
        the("44 image: of no TOPIC: STUCK behind back()");
        Recorded y = new Recorded();
        y.image();
        topic(y, "a");
        y.back();
        refused(y, "publish(0, 0, 0)", () -> y.publish(0, 0, 0), STUCK);
        the("44 image: of fewer than 300 MESSAGES: numbers come again behind back()");
        Recorded z = new Recorded();
        topic(z, "a");
        z.publish(1, 1, 1);
        z.image();
        for (int m = 0; m < 299; m++) {
            z.publish(2, 2, 2);
        }
        z.back();
        due("publish", z.publish(3, 3, 3), 0);
        due("messageOf(1, 2)", z.messageOf(1, 2), 3);
        due("messageOf(0, 2)", z.messageOf(0, 2), 1);
        refused(z, "messageOf(2, 0)", () -> z.messageOf(2, 0), BAD);
    }

    // ---- 46 status

    private static void statusEdges() {
        Recorded x = scene();
        the("46 status: NONE another what, which isn't refused");
        for (int what : new int[] {-1, 11, 17, 99, 100, LEAST, MOST, LEAST + 12, MOST - 82}) {
            only(x, "status(" + what + ")", () -> x.status(what), NONE);
        }
        the("46 status: 0 to 10");
        int[] wants = {3, 4, 5, 4, 6, 5, 5, 2, 3, -99, 5};
        for (int what = 0; what < wants.length; what++) {
            int asked = what;
            only(x, "status(" + what + ")", () -> x.status(asked), wants[what]);
        }
        the("46 status: SHELVES that hold something: a row of no elements, a cause; the first, the last, all, none");
        Recorded y = withCauses();
        due("status(10)", y.status(10), 0);
        y.row(0, BYTES, 0);
        due("status(10)", y.status(10), 1);
        y.show(7, 0, 0);
        due("status(10)", y.status(10), 2);
        for (int s = 0; s <= 7; s++) {
            y.row(s, LONGS, 40);
        }
        due("status(10)", y.status(10), 8);
        y.show(0, NONE, 0);
        due("status(10)", y.status(10), 7);
        the("46 status: all at most: 8 QUEUES, 10 CONSUMERS, 160 LETTERS, 90 CREDITS, 4 parts, 250 bytes, 30 DEAD");
        Recorded z = new Recorded();
        topic(z, "a.b.c.d");
        for (int q = 0; q < 8; q++) {
            queue(z, "#", 20, 1, 1, 0);
        }
        for (int c = 0; c < 10; c++) {
            z.consumer(c % 8);
            z.credit(c, 9);
        }
        for (int m = 0; m < 24; m++) {
            z.publish(m % 8, 0, 0);
        }
        for (int k = 0; k < 250; k++) {
            z.feed(0);
        }
        int[] most = {8, 10, 24, 30, 0, 160, 90, 4, 250};
        for (int what = 0; what < most.length; what++) {
            due("status(" + what + ")", z.status(what), most[what]);
        }
    }

    private static void statusRefusals() {
        the("46 status: each of -82 to -86 is counted for itself, a FAULT as BAD");
        Recorded x = withCauses();
        x.show(0, 0, 0);
        x.give(9);
        x.topic();
        x.queue(1, 1, 1, 0);
        x.set(0, 0, 0);
        x.says(1, 0);
        x.says(1, 0);
        x.back();
        x.credit(0, 9);
        x.credit(0, 9);
        x.credit(0, 9);
        int[] wants = {3, 1, 2, 1, 3};
        for (int k = 0; k < wants.length; k++) {
            due("status(" + (12 + k) + ")", x.status(12 + k), wants[k]);
        }
    }
}
