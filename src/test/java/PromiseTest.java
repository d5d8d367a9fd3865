import java.util.List;

/** For each promise of the document: ordinary inputs, the edges that it names, and wrong inputs. */
public final class PromiseTest extends Checks {
    public static void main(String[] args) {
        newObject();
        rows();
        sets();
        copies();
        elements();
        holdsTold();
        shows();
        saysOfKinds();
        saysNothingElse();
        feeds();
        wipes();
        topics();
        topicFaults();
        queues();
        queueFaults();
        exclusives();
        consumers();
        leaves();
        credits();
        publishes();
        publishesToTheEnd();
        gives();
        givesRoundAbout();
        givesExclusively();
        givesAll();
        acks();
        nacks();
        waits();
        passes();
        passesInOrder();
        ages();
        revives();
        keepsThirtyDead();
        buries();
        purges();
        queuesTold();
        lettersTold();
        consumersTold();
        heldTold();
        messagesTold();
        deadTold();
        causesTold();
        fitsTold();
        coversTold();
        patternsTold();
        nexts();
        blockedKeys();
        drainedOrder();
        untilNext();
        doomedLetters();
        judges();
        days();
        daysWithNothing();
        seeds();
        images();
        beginsAnew();
        statuses();
        fullHouse();
        end("promises");
    }

    // ---- promises

    private static void newObject() {
        the("1 a new object");
        Recorded x = new Recorded();
        int[] wants = {0, 0, 0, 0, 0, 0, 0, 0, 0, 1, 0, NONE, 0, 0, 0, 0, 0, NONE};
        for (int what = 0; what < wants.length; what++) {
            due("status(" + what + ")", x.status(what), wants[what]);
        }
        for (int s = 0; s < 8; s++) {
            due("holds(" + s + ")", x.holds(s), NONE);
        }
        due("wipe()", x.wipe(), 0);
        due("NONE", CreditBroker.NONE, -1);
        refused(x, "fits()", () -> x.fits(), STUCK);
        refused(x, "back()", () -> x.back(), STUCK);
        refused(x, "queueOf(0, 0)", () -> x.queueOf(0, 0), BAD);
    }

    private static void rows() {
        the("2 row");
        Recorded x = new Recorded();
        due("row(0, 0, 0)", x.row(0, 0, 0), 1);
        due("holds(0)", x.holds(0), 0);
        due("row(7, 4, 40)", x.row(7, 4, 40), 1);
        due("holds(7)", x.holds(7), 4);
        due("element(7, 39)", x.element(7, 39), 0);
        due("set(7, 39, 5)", x.set(7, 39, 5), 1);
        due("row(7, 3, 40) again", x.row(7, 3, 40), 1);
        due("element(7, 39) of the new one", x.element(7, 39), 0);
        Recorded y = withCauses();
        y.show(0, 0, 0);
        due("row(0, 1, 2) over a cause", y.row(0, 1, 2), 1);
        due("holds(0)", y.holds(0), 1);
        refused(y, "says(0, 0)", () -> y.says(0, 0), OTHER);
        refused(x, "row(8, 0, 1)", () -> x.row(8, 0, 1), BAD);
        refused(x, "row(-1, 0, 1)", () -> x.row(-1, 0, 1), BAD);
        refused(x, "row(0, 5, 1)", () -> x.row(0, 5, 1), BAD);
        refused(x, "row(0, -1, 1)", () -> x.row(0, -1, 1), BAD);
        refused(x, "row(0, 0, 41)", () -> x.row(0, 0, 41), BAD);
        refused(x, "row(0, 0, -1)", () -> x.row(0, 0, -1), BAD);
        refused(x, "row(MOST, LEAST, MOST)", () -> x.row(MOST, LEAST, MOST), BAD);
    }

    private static void sets() {
        the("3 set");
        Recorded x = new Recorded();
        long big = 0x1234_5678_9abc_def0L;
        long[] wants = {(byte) big, (short) big, (int) big, big, 1};
        for (int sort = 0; sort < 5; sort++) {
            x.row(sort, sort, 2);
            due("set(" + sort + ", 1, big)", x.set(sort, 1, big), 1);
            due("element(" + sort + ", 1)", x.element(sort, 1), wants[sort]);
            due("element(" + sort + ", 0)", x.element(sort, 0), 0);
        }
        x.set(0, 0, 128);
        due("a byte of 128", x.element(0, 0), -128);
        x.set(1, 0, 65535);
        due("a short of 65535", x.element(1, 0), -1);
        x.set(2, 0, 1L << 32);
        due("an int of 2 to the 32nd", x.element(2, 0), 0);
        x.set(4, 0, 1L << 40);
        due("a boolean of 2 to the 40th", x.element(4, 0), 1);
        x.set(4, 0, 0);
        due("a boolean of 0", x.element(4, 0), 0);
        refused(x, "set(8, 0, 0)", () -> x.set(8, 0, 0), BAD);
        refused(x, "set(-1, 0, 0)", () -> x.set(-1, 0, 0), BAD);
        refused(x, "set(5, 0, 0)", () -> x.set(5, 0, 0), NOTHING);
        refused(x, "set(0, 2, 0)", () -> x.set(0, 2, 0), BAD);
        refused(x, "set(0, -1, 0)", () -> x.set(0, -1, 0), BAD);
        refused(x, "set(0, MOST, 0)", () -> x.set(0, MOST, 0), BAD);
        Recorded y = withCauses();
        y.show(0, 0, 0);
        refused(y, "set(0, 99, 0) on a cause", () -> y.set(0, 99, 0), OTHER);
    }

    private static void copies() {
        the("4 copy");
        Recorded x = withCauses();
        x.row(0, 2, 5);
        x.row(1, 2, 3);
        x.row(2, 3, 3);
        x.show(3, 0, 0);
        for (int i = 0; i < 5; i++) {
            x.set(0, i, 10 + i);
        }
        due("copy(0, 1, 2, 0, 3)", x.copy(0, 1, 2, 0, 3), 3);
        due("element(1, 0)", x.element(1, 0), 12);
        due("element(1, 2)", x.element(1, 2), 14);
        due("copy(0, 0, 0, 1, 4), as they were", x.copy(0, 0, 0, 1, 4), 4);
        long[] wants = {10, 10, 11, 12, 13};
        for (int i = 0; i < 5; i++) {
            due("element(0, " + i + ")", x.element(0, i), wants[i]);
        }
        due("copy(0, 0, 1, 0, 4), as they were", x.copy(0, 0, 1, 0, 4), 4);
        due("element(0, 3)", x.element(0, 3), 13);
        due("copy(0, 1, 5, 3, 0)", x.copy(0, 1, 5, 3, 0), 0);
        refused(x, "copy(-1, 3, ..)", () -> x.copy(-1, 3, 0, 0, 1), BAD);
        refused(x, "copy(0, 8, ..)", () -> x.copy(0, 8, 0, 0, 1), BAD);
        refused(x, "copy(3, 0, ..)", () -> x.copy(3, 0, 0, 0, 1), OTHER);
        refused(x, "copy(0, 3, ..)", () -> x.copy(0, 3, 0, 0, 1), OTHER);
        refused(x, "copy(5, 3, ..)", () -> x.copy(5, 3, 0, 0, 1), OTHER);
        refused(x, "copy(3, 5, ..)", () -> x.copy(3, 5, 0, 0, 1), OTHER);
        refused(x, "copy(0, 2, ..)", () -> x.copy(0, 2, 0, 0, 99), OTHER);
        refused(x, "copy(5, 0, ..)", () -> x.copy(5, 0, 0, 0, 99), NOTHING);
        refused(x, "copy(0, 5, ..)", () -> x.copy(0, 5, 0, 0, 1), NOTHING);
        refused(x, "copy(0, 1, 3, 0, 3)", () -> x.copy(0, 1, 3, 0, 3), BAD);
        refused(x, "copy(0, 1, 0, 1, 3)", () -> x.copy(0, 1, 0, 1, 3), BAD);
        refused(x, "copy(0, 1, -1, 0, 1)", () -> x.copy(0, 1, -1, 0, 1), BAD);
        refused(x, "copy(0, 1, 0, -1, 1)", () -> x.copy(0, 1, 0, -1, 1), BAD);
        refused(x, "copy(0, 1, 0, 0, -1)", () -> x.copy(0, 1, 0, 0, -1), BAD);
        refused(x, "copy(0, 1, MOST, 0, MOST)", () -> x.copy(0, 1, MOST, 0, MOST), BAD);
        refused(x, "copy(0, 1, 6, 0, 0)", () -> x.copy(0, 1, 6, 0, 0), BAD);
    }

    private static void elements() {
        the("5 element");
        Recorded x = withCauses();
        x.row(0, 3, 2);
        x.set(0, 1, -7);
        x.show(1, 0, 0);
        due("element(0, 1)", x.element(0, 1), -7);
        due("element(0, 2)", x.element(0, 2), 0);
        due("element(0, -1)", x.element(0, -1), 0);
        due("element(0, MOST)", x.element(0, MOST), 0);
        due("element(1, 0)", x.element(1, 0), 0);
        due("element(2, 0)", x.element(2, 0), 0);
        due("element(-1, 0)", x.element(-1, 0), 0);
        due("element(8, 0)", x.element(8, 0), 0);
        due("refusals", x.status(12) + x.status(13) + x.status(14), 0);
    }

    private static void holdsTold() {
        the("6 holds");
        Recorded x = withCauses();
        for (int sort = 0; sort < 5; sort++) {
            x.row(0, sort, 1);
            due("holds(0)", x.holds(0), sort);
        }
        due("holds(1)", x.holds(1), NONE);
        due("holds(8)", x.holds(8), NONE);
        due("holds(-1)", x.holds(-1), NONE);
        due("refusals", x.status(12), 0);
        int[] kinds = {6, 5, 3, 4};
        int[] deadAt = {0, 1, 1, 2};
        int[] links = {0, 0, 1, 0};
        for (int k = 0; k < kinds.length; k++) {
            x.show(0, deadAt[k], links[k]);
            due("holds(0) of a cause", x.holds(0), 10 + kinds[k]);
        }
    }

    private static void shows() {
        the("7 show");
        Recorded x = withCauses();
        due("status(3)", x.status(3), 3);
        due("show(0, 2, 1)", x.show(0, 2, 1), 1);
        due("holds(0)", x.holds(0), 13);
        due("show(0, NONE, 0)", x.show(0, NONE, 0), 1);
        due("holds(0)", x.holds(0), NONE);
        x.row(0, 0, 3);
        due("show over a row", x.show(0, 0, 0), 1);
        due("holds(0)", x.holds(0), 16);
        due("element(0, 0)", x.element(0, 0), 0);
        refused(x, "show(8, 0, 0)", () -> x.show(8, 0, 0), BAD);
        refused(x, "show(-1, NONE, 0)", () -> x.show(-1, NONE, 0), BAD);
        refused(x, "show(0, 3, 0)", () -> x.show(0, 3, 0), BAD);
        refused(x, "show(0, -2, 0)", () -> x.show(0, -2, 0), BAD);
        refused(x, "show(0, 0, 1)", () -> x.show(0, 0, 1), BAD);
        refused(x, "show(0, 2, 2)", () -> x.show(0, 2, 2), BAD);
        refused(x, "show(0, 2, -1)", () -> x.show(0, 2, -1), BAD);
        x.bury(NONE);
        due("a cause is as it is", x.says(0, 6), 2);
    }

    private static void saysOfKinds() {
        the("8 says");
        Recorded x = withCauses();
        x.show(0, 0, 0);
        due("FULL: time", x.says(0, 0), 0);
        due("FULL: causes", x.says(0, 2), 0);
        due("FULL: limit", x.says(0, 6), 2);
        x.show(0, 1, 0);
        due("OLD: time", x.says(0, 0), 9);
        due("OLD: causes", x.says(0, 2), 1);
        due("OLD: age", x.says(0, 5), 9);
        refused(x, "OLD as FULL", () -> x.says(0, 6), OTHER);
        refused(x, "OLD as FAILURE", () -> x.says(0, 1), OTHER);
        x.show(0, 1, 1);
        due("REJECTED: time", x.says(0, 0), 0);
        due("REJECTED: failed", x.says(0, 1), 1);
        due("REJECTED: consumer", x.says(0, 3), 0);
        refused(x, "REJECTED as LATE", () -> x.says(0, 4), OTHER);
        refused(x, "REJECTED as LOSS", () -> x.says(0, 2), OTHER);
        x.show(0, 2, 0);
        due("LATE: time", x.says(0, 0), 13);
        due("LATE: failed", x.says(0, 1), 2);
        due("LATE: consumer", x.says(0, 4), 1);
        x.show(0, 2, 1);
        due("REJECTED: consumer", x.says(0, 3), 1);
    }

    private static void saysNothingElse() {
        the("8 says");
        Recorded x = new Recorded();
        x.row(0, 0, 1);
        refused(x, "says(8, 0)", () -> x.says(8, 0), BAD);
        refused(x, "says(-1, 0)", () -> x.says(-1, 0), BAD);
        refused(x, "says(0, 7)", () -> x.says(0, 7), BAD);
        refused(x, "says(0, -1)", () -> x.says(0, -1), BAD);
        refused(x, "says(0, 0) of a row", () -> x.says(0, 0), OTHER);
        refused(x, "says(1, 0)", () -> x.says(1, 0), NOTHING);
    }

    private static void feeds() {
        the("9 feed");
        Recorded x = new Recorded();
        due("feed(0)", x.feed(0), 1);
        due("feed(255)", x.feed(255), 2);
        refused(x, "feed(256)", () -> x.feed(256), BAD);
        refused(x, "feed(-1)", () -> x.feed(-1), BAD);
        due("status(8)", x.status(8), 2);
        for (int k = 3; k <= 250; k++) {
            due("feed", x.feed(97), k);
        }
        refused(x, "feed(97) of the 251st", () -> x.feed(97), FULL);
        refused(x, "feed(300) of the 251st", () -> x.feed(300), BAD);
        due("status(8)", x.status(8), 250);
        due("topic()", x.topic(), -300);
    }

    private static void wipes() {
        the("10 wipe");
        Recorded x = new Recorded();
        feedAll(x, "a.b");
        due("wipe()", x.wipe(), 3);
        due("wipe()", x.wipe(), 0);
        due("status(8)", x.status(8), 0);
        due("topic()", topic(x, "c"), 1);
    }

    private static void topics() {
        the("11 topic");
        Recorded x = new Recorded();
        String[] topics = {"a", "z", "abcd", "a.b", "aa.bbb.cccc", "a.b.c.d", "aaaa.bbbb.cccc.zzzz"};
        int[] wants = {1, 1, 1, 2, 3, 4, 4};
        for (int k = 0; k < topics.length; k++) {
            due("topic " + topics[k], topic(x, topics[k]), wants[k]);
            due("status(7)", x.status(7), wants[k]);
            due("status(8)", x.status(8), 0);
        }
    }

    private static void topicFaults() {
        the("11 topic");
        Recorded x = new Recorded();
        queue(x, "a.b", 1, 1, 1, 0);
        topic(x, "a.b");
        String[] faulty = {"", "a.", ".a", "a..b", "abcde", "a.abcde", "a.b.c.d.", "a.b.c.d.e", "*", "a.#",
            "A", "a`", "a{", "a b", "a.b.c.", "aaaa.bbbb.cccc.dddd.", "aaaa.bbbb.cccc.ddddd"};
        int[] faults = {0, 2, 0, 2, 4, 6, 7, 7, 0, 2, 0, 1, 1, 1, 6, 19, 19};
        for (int k = 0; k < faulty.length; k++) {
            feedAll(x, faulty[k]);
            refusedTapeGone(x, "topic '" + faulty[k] + "'", () -> x.topic(), -300 - faults[k]);
            due("status(8)", x.status(8), 0);
        }
        x.feed(97);
        x.feed(0);
        refusedTapeGone(x, "topic of a 0", () -> x.topic(), -301);
        x.feed(225);
        refusedTapeGone(x, "topic of a 225", () -> x.topic(), -300);
        due("fits(): the topic stays", x.fits(), 1);
    }

    private static void queues() {
        the("12 queue");
        Recorded x = new Recorded();
        feedAll(x, "a");
        refused(x, "queue(0, 1, 1, 0)", () -> x.queue(0, 1, 1, 0), BAD);
        refused(x, "queue(21, 1, 1, 0)", () -> x.queue(21, 1, 1, 0), BAD);
        refused(x, "queue(1, 0, 1, 0)", () -> x.queue(1, 0, 1, 0), BAD);
        refused(x, "queue(1, 6, 1, 0)", () -> x.queue(1, 6, 1, 0), BAD);
        refused(x, "queue(1, 1, 0, 0)", () -> x.queue(1, 1, 0, 0), BAD);
        refused(x, "queue(1, 1, 100, 0)", () -> x.queue(1, 1, 100, 0), BAD);
        refused(x, "queue(1, 1, 1, -1)", () -> x.queue(1, 1, 1, -1), BAD);
        refused(x, "queue(1, 1, 1, 1000)", () -> x.queue(1, 1, 1, 1000), BAD);
        due("the tape stays", x.status(8), 1);
        due("queue(20, 5, 99, 999)", x.queue(20, 5, 99, 999), 0);
        due("the tape is empty", x.status(8), 0);
        due("queueOf(0, 7): not exclusive at first", x.queueOf(0, 7), 0);
        String[] patterns = {"*", "#", "a.#", "*.*.*.*", "abcd.*.#", "a.b.c.#", "aaaa.bbbb.cccc.dddd"};
        for (int k = 0; k < patterns.length; k++) {
            due("queue " + patterns[k], queue(x, patterns[k], 1, 1, 1, 0), k + 1);
        }
        feedAll(x, "a");
        refusedTapeGone(x, "a 9th queue", () -> x.queue(1, 1, 1, 0), FULL);
        due("the tape is empty", x.status(8), 0);
        feedAll(x, "a.");
        refusedTapeGone(x, "a 9th queue at fault", () -> x.queue(1, 1, 1, 0), -302);
        feedAll(x, "a.");
        refused(x, "a 9th queue with a bad limit", () -> x.queue(0, 1, 1, 0), BAD);
        due("the tape stays", x.status(8), 2);
        due("status(0)", x.status(0), 8);
    }

    private static void queueFaults() {
        the("12 queue");
        Recorded x = new Recorded();
        String[] faulty = {"", "a.", "*.", "*a", "a*", "**", "*#", "#*", "#a", "#.", "#.a", "a.#.b", "a#",
            "a.b.c.d.#", "abcde", ".", "#.#", "*.*.*.*.", "aaaa.bbbb.cccc.dddd.", "aaaa.bbbb.cccc.dddd*", "A"};
        int[] faults = {0, 2, 2, 1, 1, 1, 1, 1, 1, 1, 1, 3, 1, 7, 4, 0, 1, 7, 19, 19, 0};
        for (int k = 0; k < faulty.length; k++) {
            feedAll(x, faulty[k]);
            refusedTapeGone(x, "queue '" + faulty[k] + "'", () -> x.queue(1, 1, 1, 0), -300 - faults[k]);
            due("status(8)", x.status(8), 0);
        }
        due("status(0)", x.status(0), 0);
    }

    private static void exclusives() {
        the("13 exclusive");
        Recorded x = simple(5, 1, 1, 0, 0);
        due("exclusive(0, 1)", x.exclusive(0, 1), 0);
        due("queueOf(0, 7)", x.queueOf(0, 7), 1);
        due("exclusive(0, 1)", x.exclusive(0, 1), 1);
        due("exclusive(0, 0)", x.exclusive(0, 0), 1);
        due("exclusive(0, 0)", x.exclusive(0, 0), 0);
        refused(x, "exclusive(1, 1)", () -> x.exclusive(1, 1), BAD);
        refused(x, "exclusive(-1, 1)", () -> x.exclusive(-1, 1), BAD);
        refused(x, "exclusive(0, 2)", () -> x.exclusive(0, 2), BAD);
        refused(x, "exclusive(0, -1)", () -> x.exclusive(0, -1), BAD);
    }

    private static void consumers() {
        the("14 consumer");
        Recorded x = simple(5, 1, 1, 0, 0);
        refused(x, "consumer(1)", () -> x.consumer(1), BAD);
        refused(x, "consumer(-1)", () -> x.consumer(-1), BAD);
        for (int c = 1; c < 10; c++) {
            due("consumer(0)", x.consumer(0), c);
            due("credits at first", x.consumerOf(c, 1), 0);
        }
        refused(x, "an 11th", () -> x.consumer(0), FULL);
        x.leave(3);
        refused(x, "a number is never used again", () -> x.consumer(0), FULL);
        refused(x, "consumer(1) behind the 10th", () -> x.consumer(1), BAD);
    }

    private static void leaves() {
        the("15 leave");
        Recorded x = simple(9, 3, 4, 0, 3);
        for (int key = 0; key < 4; key++) {
            x.publish(key, 0, 0);
        }
        x.give(0);
        x.nack(0, 0);
        x.pass(1);
        x.giveAll(0);
        due("leave(0)", x.leave(0), 3);
        due("READY", x.queueOf(0, 1), 4);
        due("nothing failed", x.letter(0, 0, 2), 1);
        due("nobody has it", x.letter(0, 0, 3), NONE);
        due("no lease", x.letter(0, 0, 4), NONE);
        due("credits", x.consumerOf(0, 1), 0);
        due("left", x.consumerOf(0, 3), 1);
        due("none out", x.consumerOf(0, 2), 0);
        refused(x, "leave(0) again", () -> x.leave(0), BAD);
        refused(x, "leave(1)", () -> x.leave(1), BAD);
        refused(x, "leave(-1)", () -> x.leave(-1), BAD);
        due("pass(9): no lease is left", x.pass(9), 0);
        due("READY", x.queueOf(0, 1), 4);
        x.consumer(0);
        due("leave(1)", x.leave(1), 0);
    }

    private static void credits() {
        the("16 credit");
        Recorded x = simple(9, 3, 4, 0, 0);
        due("credit(0, 1)", x.credit(0, 1), 1);
        due("credit(0, 8)", x.credit(0, 8), 9);
        refused(x, "credit(0, 1) of the 10th", () -> x.credit(0, 1), FULL);
        refused(x, "credit(0, 0)", () -> x.credit(0, 0), BAD);
        refused(x, "credit(0, 10)", () -> x.credit(0, 10), BAD);
        refused(x, "credit(0, MOST)", () -> x.credit(0, MOST), BAD);
        refused(x, "credit(1, 1)", () -> x.credit(1, 1), BAD);
        refused(x, "credit(-1, 1)", () -> x.credit(-1, 1), BAD);
        x.consumer(0);
        due("credit(1, 9)", x.credit(1, 9), 9);
        x.leave(1);
        refused(x, "credit of one that left", () -> x.credit(1, 1), BAD);
    }

    private static void publishes() {
        the("17 publish");
        Recorded x = new Recorded();
        queue(x, "a.*", 1, 2, 3, 0);
        queue(x, "b", 5, 2, 3, 0);
        queue(x, "#", 2, 2, 3, 0);
        refused(x, "publish without a topic", () -> x.publish(0, 0, 0), STUCK);
        refused(x, "publish(8, 0, 0)", () -> x.publish(8, 0, 0), BAD);
        refused(x, "publish(-1, 0, 0)", () -> x.publish(-1, 0, 0), BAD);
        refused(x, "publish(0, 4, 0)", () -> x.publish(0, 4, 0), BAD);
        refused(x, "publish(0, -1, 0)", () -> x.publish(0, -1, 0), BAD);
        topic(x, "a.x");
        due("publish(7, 3, LEAST)", x.publish(7, 3, LEAST), 2);
        due("publish(0, 0, MOST), also where it is full", x.publish(0, 0, MOST), 2);
        due("came to be dead", x.queueOf(0, 10), 1);
        due("dead(0, 0)", x.dead(0, 0), 1);
        due("dead(0, 1)", x.dead(0, 1), 0);
        due("cause(0, 0, 0)", x.cause(0, 0, 0), 6);
        due("letters", x.queueOf(2, 0), 2);
        topic(x, "b");
        due("publish(1, 1, 1)", x.publish(1, 1, 1), 2);
        due("dead(1, 1)", x.dead(1, 1), 2);
        due("ready at first", x.letter(1, 0, 1), 0);
        due("failed at first", x.letter(1, 0, 2), 0);
        due("messages", x.status(2), 3);
    }

    private static void publishesToTheEnd() {
        the("17 publish");
        Recorded x = new Recorded();
        topic(x, "a");
        for (int k = 0; k < 300; k++) {
            due("publish", x.publish(0, 0, k), 0);
        }
        refused(x, "a 301st", () -> x.publish(0, 0, 0), FULL);
        refused(x, "a 301st of no key", () -> x.publish(8, 0, 0), BAD);
        due("messageOf(299, 2)", x.messageOf(299, 2), 299);
        refused(x, "messageOf(300, 2)", () -> x.messageOf(300, 2), BAD);
    }

    private static void gives() {
        the("18 give");
        Recorded x = simple(9, 3, 4, 0, 0);
        refused(x, "give(1)", () -> x.give(1), BAD);
        refused(x, "give(-1)", () -> x.give(-1), BAD);
        due("none there", x.give(0), NONE);
        x.publish(0, 1, 0);
        x.publish(1, 2, 0);
        x.publish(2, 2, 0);
        x.publish(1, 3, 0);
        due("nobody with credits", x.give(0), NONE);
        due("NONE isn't refused", x.status(12) - 2, 0);
        x.credit(0, 9);
        x.pass(5);
        due("the greatest priority that may, of those the least number", x.give(0), 1);
        due("OUT", x.letter(0, 1, 1), 2);
        due("with", x.letter(0, 1, 3), 0);
        due("till", x.letter(0, 1, 4), 9);
        due("one credit less", x.consumerOf(0, 1), 8);
        due("got", x.consumerOf(0, 4), 1);
        due("then", x.give(0), 2);
        due("then", x.give(0), 0);
        due("one of a key at a time", x.give(0), NONE);
        x.ack(0, 1);
        due("its key is free", x.give(0), 3);
    }

    private static void givesRoundAbout() {
        the("18 give");
        Recorded x = simple(20, 3, 4, 0, 9);
        queue(x, "b", 9, 1, 1, 0);
        x.consumer(1);
        x.consumer(0);
        x.consumer(0);
        x.credit(1, 9);
        x.credit(2, 9);
        x.credit(3, 2);
        for (int k = 0; k < 8; k++) {
            x.publish(k, 0, 0);
        }
        int[] wants = {0, 2, 3, 0, 2, 3, 0, 2};
        for (int k = 0; k < wants.length; k++) {
            if (k == 7) {
                x.leave(0);
                due("who is next", x.next(0, 1), 2);
            }
            int message = x.give(0);
            int place = k == 7 ? message : k;
            due("WHO gets it", x.letter(0, place, 3), wants[k]);
        }
        due("only one of its queue", x.consumerOf(1, 4), 0);
        x.leave(2);
        due("nobody has credits", x.give(0), NONE);
        x.credit(3, 1);
        due("itself at last", x.next(0, 1), 3);
    }

    private static void givesExclusively() {
        the("18 give");
        Recorded x = simple(20, 3, 4, 0, 1);
        x.consumer(0);
        x.credit(1, 5);
        x.exclusive(0, 1);
        for (int k = 0; k < 5; k++) {
            x.publish(k, 0, 0);
        }
        due("give(0)", x.give(0), 0);
        due("to the least", x.letter(0, 0, 3), 0);
        due("the least has no credits", x.give(0), NONE);
        due("who", x.next(0, 1), NONE);
        due("but there is a next", x.next(0, 0), 1);
        x.leave(0);
        due("the least that didn't leave", x.next(0, 1), 1);
        due("give(0)", x.give(0), 0);
        x.consumer(0);
        x.credit(2, 5);
        due("the least again", x.next(0, 1), 1);
        x.exclusive(0, 0);
        due("behind the latest", x.next(0, 1), 2);
    }

    private static void givesAll() {
        the("19 giveAll");
        Recorded x = simple(20, 3, 4, 0, 2);
        refused(x, "giveAll(1)", () -> x.giveAll(1), BAD);
        refused(x, "giveAll(-1)", () -> x.giveAll(-1), BAD);
        due("none", x.giveAll(0), 0);
        x.publish(0, 0, 0);
        x.publish(0, 0, 0);
        x.publish(1, 0, 0);
        x.publish(2, 3, 0);
        due("as the credits are", x.giveAll(0), 2);
        due("held(0, 0)", x.held(0, 0), 0);
        due("held(0, 1)", x.held(0, 1), 3);
        x.credit(0, 9);
        due("as the keys are", x.giveAll(0), 1);
        due("OUT", x.queueOf(0, 3), 3);
        due("given so far", x.queueOf(0, 8), 3);
    }

    private static void acks() {
        the("20 ack");
        Recorded x = simple(20, 3, 4, 0, 2);
        x.consumer(0);
        x.publish(0, 0, 0);
        x.publish(1, 0, 0);
        x.publish(2, 0, 0);
        x.giveAll(0);
        refused(x, "ack of one that is ready", () -> x.ack(0, 2), BAD);
        refused(x, "ack of another's", () -> x.ack(1, 0), BAD);
        refused(x, "ack(0, 3)", () -> x.ack(0, 3), BAD);
        refused(x, "ack(0, -1)", () -> x.ack(0, -1), BAD);
        refused(x, "ack(2, 0)", () -> x.ack(2, 0), BAD);
        refused(x, "ack(-1, 0)", () -> x.ack(-1, 0), BAD);
        due("ack(0, 1)", x.ack(0, 1), 1);
        due("credits", x.consumerOf(0, 1), 1);
        due("letters", x.queueOf(0, 0), 2);
        due("acknowledged", x.queueOf(0, 9), 1);
        refused(x, "ack(0, 1) again", () -> x.ack(0, 1), BAD);
        x.credit(0, 8);
        due("ack(0, 0)", x.ack(0, 0), 0);
        due("9 credits at most", x.consumerOf(0, 1), 9);
        x.give(0);
        x.leave(0);
        refused(x, "ack of one that left", () -> x.ack(0, 2), BAD);
    }

    private static void nacks() {
        the("21 nack");
        Recorded x = simple(20, 2, 4, 0, 9);
        x.consumer(0);
        x.publish(0, 0, 0);
        x.publish(1, 0, 0);
        x.give(0);
        x.credit(0, 1);
        refused(x, "nack of one that is ready", () -> x.nack(0, 1), BAD);
        refused(x, "nack of another's", () -> x.nack(1, 0), BAD);
        refused(x, "nack(0, -1)", () -> x.nack(0, -1), BAD);
        refused(x, "nack(2, 0)", () -> x.nack(2, 0), BAD);
        due("nack(0, 0)", x.nack(0, 0), 1);
        due("9 credits at most", x.consumerOf(0, 1), 9);
        due("RESTING", x.letter(0, 0, 1), 1);
        due("till", x.letter(0, 0, 4), 1);
        due("with nobody", x.letter(0, 0, 3), NONE);
        refused(x, "nack of one that rests", () -> x.nack(0, 0), BAD);
        x.pass(1);
        due("round about", x.give(0), 0);
        due("as many as tries: how often it failed", x.nack(0, 0), 2);
        due("it is dead", x.status(3), 1);
        due("letters", x.queueOf(0, 0), 1);
        due("cause(0, 0, 0)", x.cause(0, 0, 0), 3);
        due("causes", x.dead(0, 3), 2);
        x.give(0);
        x.leave(0);
        refused(x, "nack of one that left", () -> x.nack(0, 1), BAD);
    }

    private static void waits() {
        the("21 nack");
        Recorded x = simple(20, 5, 4, 0, 9);
        x.publish(0, 0, 0);
        int[] waits = {1, 2, 3, 5};
        for (int k = 0; k < 4; k++) {
            x.give(0);
            int now = x.status(4);
            due("nack", x.nack(0, 0), k + 1);
            due("rests till", x.letter(0, 0, 4), now + waits[k]);
            due("not ready yet", x.pass(waits[k] - 1) + x.letter(0, 0, 1), 1);
            due("ready", x.pass(1) + x.letter(0, 0, 1), 0);
        }
        x.give(0);
        due("nack of the 5th", x.nack(0, 0), 5);
        due("dead", x.dead(0, 3), 5);
        due("the first cause", x.cause(0, 4, 1), 0);
        due("the 2nd cause", x.cause(0, 3, 1), 1);
        due("the last cause", x.cause(0, 0, 1), 11);
    }

    private static void passes() {
        the("22 pass");
        Recorded x = simple(20, 2, 3, 0, 9);
        refused(x, "pass(-1)", () -> x.pass(-1), BAD);
        refused(x, "pass(100)", () -> x.pass(100), BAD);
        due("pass(0)", x.pass(0), 0);
        due("NOW", x.status(4), 0);
        due("pass(99)", x.pass(99), 0);
        due("NOW", x.status(4), 99);
        x.publish(0, 0, 0);
        x.publish(1, 0, 0);
        x.give(0);
        x.give(0);
        x.credit(0, 2);
        due("pass(2)", x.pass(2), 0);
        due("still OUT", x.queueOf(0, 3), 2);
        due("pass(1)", x.pass(1), 0);
        due("RESTING", x.queueOf(0, 2), 2);
        due("9 credits at most", x.consumerOf(0, 1), 9);
        due("failed", x.letter(0, 0, 2), 1);
        due("till", x.letter(0, 0, 4), 103);
        x.pass(1);
        due("READY", x.queueOf(0, 1), 2);
        x.giveAll(0);
        due("pass(99): both are LATE for the 2nd time", x.pass(99), 2);
        due("dead at", x.dead(0, 2), 106);
        due("by", x.cause(1, 0, 0), 4);
    }

    private static void passesInOrder() {
        the("22 pass");
        Recorded x = new Recorded();
        queue(x, "#", 9, 1, 2, 2);
        queue(x, "#", 9, 1, 2, 2);
        topic(x, "a");
        x.consumer(1);
        x.credit(0, 1);
        x.publish(0, 0, 0);
        x.publish(1, 3, 0);
        x.publish(2, 0, 0);
        x.give(1);
        due("pass(2)", x.pass(2), 6);
        int[] messages = {0, 1, 2, 0, 1, 2};
        int[] kinds = {5, 5, 5, 5, 4, 5};
        for (int i = 0; i < 6; i++) {
            due("by queues, by numbers: message", x.dead(i, 0), messages[i]);
            due("by queues, by numbers: queue", x.dead(i, 1), i / 3);
            due("kind", x.cause(i, 0, 0), kinds[i]);
        }
    }

    private static void ages() {
        the("22 pass");
        Recorded x = simple(20, 5, 9, 5, 9);
        x.publish(0, 0, 0);
        x.publish(1, 0, 0);
        x.pass(3);
        x.give(0);
        due("one is READY and old", x.pass(2), 1);
        due("the other is OUT", x.letter(0, 0, 0), 0);
        due("OUT isn't OLD", x.pass(6), 0);
        due("nack", x.nack(0, 0), 1);
        due("RESTING isn't OLD, READY at once is", x.pass(1), 1);
        due("how long ago", x.show(0, 1, 0) + x.says(0, 5), 13);
        due("CAUSED BY", x.says(0, 2), 1);
        x.revive(0);
        due("a revived one is as old as it is", x.pass(1), 1);
        x.publish(2, 0, 0);
        x.give(0);
        x.pass(8);
        x.leave(0);
        due("overdue, but only time makes it so", x.queueOf(0, 1), 1);
        due("pass(1)", x.pass(1), 1);
    }

    private static void revives() {
        the("23 revive");
        Recorded x = simple(2, 2, 3, 0, 9);
        x.publish(0, 0, 0);
        x.publish(0, 3, 0);
        x.publish(1, 3, 0);
        x.publish(1, 3, 0);
        due("dead", x.status(3), 2);
        refused(x, "revive(0), full", () -> x.revive(0), FULL);
        refused(x, "revive(2)", () -> x.revive(2), BAD);
        refused(x, "revive(-1)", () -> x.revive(-1), BAD);
        x.give(0);
        x.nack(0, 0);
        x.pass(1);
        x.give(0);
        x.nack(0, 0);
        due("dead", x.dead(2, 0), 0);
        due("revive(2)", x.revive(2), 2);
        due("among the others by its number", x.letter(0, 0, 0), 0);
        due("READY", x.letter(0, 0, 1), 0);
        due("failed 0", x.letter(0, 0, 2), 0);
        due("it goes first", x.next(0, 0), 0);
        refused(x, "revive(0), full again", () -> x.revive(0), FULL);
        x.give(0);
        x.nack(0, 0);
        x.pass(1);
        x.give(0);
        x.nack(0, 0);
        due("no causes of before", x.dead(2, 3), 2);
        due("came to be dead", x.queueOf(0, 10), 4);
    }

    private static void keepsThirtyDead() {
        the("17 publish");
        Recorded x = simple(1, 1, 1, 0, 0);
        for (int k = 0; k < 33; k++) {
            x.publish(0, 0, 0);
        }
        due("30 at most", x.status(3), 30);
        due("the first went", x.dead(0, 0), 3);
        due("the last", x.dead(29, 0), 32);
        due("came to be dead", x.queueOf(0, 10), 32);
        refused(x, "dead(30, 0)", () -> x.dead(30, 0), BAD);
    }

    private static void buries() {
        the("24 bury");
        Recorded x = new Recorded();
        queue(x, "#", 1, 1, 1, 0);
        queue(x, "#", 2, 1, 1, 0);
        topic(x, "a");
        for (int k = 0; k < 4; k++) {
            x.publish(0, 0, 0);
        }
        due("dead", x.status(3), 5);
        refused(x, "bury(2)", () -> x.bury(2), BAD);
        refused(x, "bury(-2)", () -> x.bury(-2), BAD);
        due("bury(1)", x.bury(1), 2);
        due("dead", x.status(3), 3);
        due("in their order", x.dead(0, 0) * 100 + x.dead(1, 0) * 10 + x.dead(2, 0), 123);
        due("bury(1)", x.bury(1), 0);
        due("bury(NONE)", x.bury(NONE), 3);
        due("dead", x.status(3), 0);
        due("came to be dead", x.queueOf(0, 10), 3);
    }

    private static void purges() {
        the("25 purge");
        Recorded x = simple(9, 3, 4, 0, 2);
        for (int k = 0; k < 5; k++) {
            x.publish(k, 0, 0);
        }
        x.giveAll(0);
        x.nack(0, 0);
        refused(x, "purge(1)", () -> x.purge(1), BAD);
        refused(x, "purge(-1)", () -> x.purge(-1), BAD);
        due("purge(0)", x.purge(0), 4);
        due("OUT stays", x.letter(0, 0, 0), 1);
        due("letters", x.queueOf(0, 0), 1);
        due("purge(0)", x.purge(0), 0);
        due("none is dead", x.status(3) + x.queueOf(0, 10), 0);
    }

    private static void queuesTold() {
        the("26 queueOf");
        Recorded x = simple(9, 3, 4, 0, 5);
        queue(x, "zz", 1, 1, 1, 0);
        x.consumer(0);
        x.consumer(0);
        x.consumer(1);
        x.credit(1, 2);
        x.credit(2, 9);
        x.credit(3, 9);
        x.leave(2);
        int[] keys = {0, 0, 1, 2, 3, 3, 4, 5, 6, 7};
        for (int key : keys) {
            x.publish(key, 0, 0);
        }
        for (int k = 0; k < 4; k++) {
            x.give(0);
        }
        x.nack(1, 2);
        x.ack(0, 3);
        x.exclusive(0, 1);
        int[] wants = {8, 5, 1, 2, 3, 2, 5, 1, 4, 1, 1};
        for (int what = 0; what < wants.length; what++) {
            due("queueOf(0, " + what + ")", x.queueOf(0, what), wants[what]);
        }
        due("queueOf(1, 6)", x.queueOf(1, 6), 9);
        refused(x, "queueOf(0, 11)", () -> x.queueOf(0, 11), BAD);
        refused(x, "queueOf(0, -1)", () -> x.queueOf(0, -1), BAD);
        refused(x, "queueOf(2, 0)", () -> x.queueOf(2, 0), BAD);
        refused(x, "queueOf(-1, 0)", () -> x.queueOf(-1, 0), BAD);
    }

    private static void lettersTold() {
        the("27 letter");
        Recorded x = simple(9, 3, 4, 0, 5);
        x.pass(7);
        x.publish(0, 0, 0);
        x.publish(1, 0, 0);
        x.publish(2, 0, 0);
        x.give(0);
        x.give(0);
        x.nack(0, 1);
        int[][] wants = {{0, 2, 0, 0, 11}, {1, 1, 1, NONE, 8}, {2, 0, 0, NONE, NONE}};
        for (int i = 0; i < 3; i++) {
            for (int what = 0; what < 5; what++) {
                due("letter(0, " + i + ", " + what + ")", x.letter(0, i, what), wants[i][what]);
            }
        }
        due("NONE isn't refused", x.status(12), 0);
        refused(x, "letter(0, 3, 0)", () -> x.letter(0, 3, 0), BAD);
        refused(x, "letter(0, -1, 0)", () -> x.letter(0, -1, 0), BAD);
        refused(x, "letter(0, 0, 5)", () -> x.letter(0, 0, 5), BAD);
        refused(x, "letter(0, 0, -1)", () -> x.letter(0, 0, -1), BAD);
        refused(x, "letter(1, 0, 0)", () -> x.letter(1, 0, 0), BAD);
        refused(x, "letter(-1, 0, 0)", () -> x.letter(-1, 0, 0), BAD);
    }

    private static void consumersTold() {
        the("28 consumerOf");
        Recorded x = simple(9, 3, 4, 0, 5);
        queue(x, "b", 9, 3, 4, 0);
        x.consumer(1);
        x.publish(0, 0, 0);
        x.publish(1, 0, 0);
        x.publish(2, 0, 0);
        x.giveAll(0);
        x.ack(0, 1);
        int[] wants = {0, 3, 2, 0, 3};
        for (int what = 0; what < 5; what++) {
            due("consumerOf(0, " + what + ")", x.consumerOf(0, what), wants[what]);
        }
        due("consumerOf(1, 0)", x.consumerOf(1, 0), 1);
        x.leave(0);
        due("what it got stays", x.consumerOf(0, 4), 3);
        due("left", x.consumerOf(0, 3), 1);
        refused(x, "consumerOf(0, 5)", () -> x.consumerOf(0, 5), BAD);
        refused(x, "consumerOf(0, -1)", () -> x.consumerOf(0, -1), BAD);
        refused(x, "consumerOf(2, 0)", () -> x.consumerOf(2, 0), BAD);
        refused(x, "consumerOf(-1, 0)", () -> x.consumerOf(-1, 0), BAD);
    }

    private static void heldTold() {
        the("29 held");
        Recorded x = simple(9, 3, 4, 0, 1);
        x.consumer(0);
        x.credit(1, 5);
        x.publish(0, 0, 0);
        x.publish(1, 0, 0);
        x.publish(2, 3, 0);
        x.giveAll(0);
        due("held(0, 0)", x.held(0, 0), 2);
        due("held(1, 0)", x.held(1, 0), 0);
        due("held(1, 1)", x.held(1, 1), 1);
        refused(x, "held(0, 1)", () -> x.held(0, 1), BAD);
        refused(x, "held(1, 2)", () -> x.held(1, 2), BAD);
        refused(x, "held(1, -1)", () -> x.held(1, -1), BAD);
        refused(x, "held(2, 0)", () -> x.held(2, 0), BAD);
        refused(x, "held(-1, 0)", () -> x.held(-1, 0), BAD);
        x.leave(1);
        refused(x, "held of one that left", () -> x.held(1, 0), BAD);
    }

    private static void messagesTold() {
        the("30 messageOf");
        Recorded x = simple(1, 3, 4, 0, 1);
        queue(x, "*.b", 9, 3, 4, 0);
        x.pass(4);
        topic(x, "a.b");
        x.publish(5, 2, -77);
        x.publish(6, 1, 78);
        int[] wants = {5, 2, -77, 4, 2, 2};
        for (int what = 0; what < 6; what++) {
            due("messageOf(0, " + what + ")", x.messageOf(0, what), wants[what]);
        }
        due("one queue was full", x.messageOf(1, 4), 1);
        x.give(0);
        due("OUT is still had", x.messageOf(0, 4), 2);
        x.ack(0, 0);
        due("one queue has it", x.messageOf(0, 4), 1);
        topic(x, "a");
        due("it has the topic of then", x.messageOf(0, 5), 2);
        refused(x, "messageOf(2, 0)", () -> x.messageOf(2, 0), BAD);
        refused(x, "messageOf(-1, 0)", () -> x.messageOf(-1, 0), BAD);
        refused(x, "messageOf(0, 6)", () -> x.messageOf(0, 6), BAD);
        refused(x, "messageOf(0, -1)", () -> x.messageOf(0, -1), BAD);
    }

    private static void deadTold() {
        the("31 dead");
        Recorded x = withCauses();
        int[][] wants = {{2, 0, 0, 1}, {0, 0, 9, 2}, {3, 1, 13, 2}};
        for (int i = 0; i < 3; i++) {
            for (int what = 0; what < 4; what++) {
                due("dead(" + i + ", " + what + ")", x.dead(i, what), wants[i][what]);
            }
        }
        refused(x, "dead(3, 0)", () -> x.dead(3, 0), BAD);
        refused(x, "dead(-1, 0)", () -> x.dead(-1, 0), BAD);
        refused(x, "dead(0, 4)", () -> x.dead(0, 4), BAD);
        refused(x, "dead(0, -1)", () -> x.dead(0, -1), BAD);
    }

    private static void causesTold() {
        the("32 cause");
        Recorded x = withCauses();
        int[][] wants = {{0, 0, 6, 0}, {1, 0, 5, 9}, {1, 1, 3, 0}, {2, 0, 4, 13}, {2, 1, 3, 9}};
        for (int[] want : wants) {
            due("kind of " + want[0] + ", " + want[1], x.cause(want[0], want[1], 0), want[2]);
            due("time of " + want[0] + ", " + want[1], x.cause(want[0], want[1], 1), want[3]);
        }
        refused(x, "cause(0, 1, 0)", () -> x.cause(0, 1, 0), BAD);
        refused(x, "cause(2, 2, 0)", () -> x.cause(2, 2, 0), BAD);
        refused(x, "cause(2, -1, 0)", () -> x.cause(2, -1, 0), BAD);
        refused(x, "cause(3, 0, 0)", () -> x.cause(3, 0, 0), BAD);
        refused(x, "cause(-1, 0, 0)", () -> x.cause(-1, 0, 0), BAD);
        refused(x, "cause(0, 0, 2)", () -> x.cause(0, 0, 2), BAD);
        refused(x, "cause(0, 0, -1)", () -> x.cause(0, 0, -1), BAD);
    }

    private static void fitsTold() {
        the("33 fits");
        Recorded x = new Recorded();
        String[] patterns = {"a", "*", "#", "a.#", "*.b", "a.*.#", "*.*.*.*", "ab"};
        for (String pattern : patterns) {
            queue(x, pattern, 1, 1, 1, 0);
        }
        refused(x, "fits() of no topic", () -> x.fits(), STUCK);
        topic(x, "a");
        due("a", x.fits(), 0b00001111);
        topic(x, "ab");
        due("ab", x.fits(), 0b10000110);
        topic(x, "a.b");
        due("a.b", x.fits(), 0b00111100);
        topic(x, "c.b");
        due("c.b", x.fits(), 0b00010100);
        topic(x, "a.b.c");
        due("a.b.c", x.fits(), 0b00101100);
        topic(x, "a.b.c.d");
        due("a.b.c.d", x.fits(), 0b01101100);
        topic(x, "b.a");
        due("b.a", x.fits(), 0b00000100);
    }

    private static void coversTold() {
        the("34 covers");
        String[] patterns = {"a", "*", "#", "a.#", "*.#", "a.*", "a.b.c.#", "a.b.c.*", "*.*.*.#", "*.*.*.*",
            "a.b.c.d", "ab", "*.a.#", "a.*.#", "a.b.c", "b.#"};
        for (String outer : patterns) {
            for (String inner : patterns) {
                Recorded x = new Recorded();
                queue(x, outer, 1, 1, 1, 0);
                queue(x, inner, 1, 1, 1, 0);
                due(outer + " covers " + inner, x.covers(0, 1), coversByTrying(outer, inner) ? 1 : 0);
                due(outer + " covers itself", x.covers(0, 0), 1);
            }
        }
        Recorded x = new Recorded();
        queue(x, "*.#", 1, 1, 1, 0);
        queue(x, "#", 1, 1, 1, 0);
        queue(x, "*.*.*.#", 1, 1, 1, 0);
        queue(x, "*.*.*.*", 1, 1, 1, 0);
        due("*.# covers #: a topic has a part", x.covers(0, 1), 1);
        due("*.*.*.# covers *.*.*.*", x.covers(2, 3), 1);
        due("*.*.*.* doesn't cover *.*.*.#", x.covers(3, 2), 0);
        refused(x, "covers(4, 0)", () -> x.covers(4, 0), BAD);
        refused(x, "covers(0, 4)", () -> x.covers(0, 4), BAD);
        refused(x, "covers(-1, 0)", () -> x.covers(-1, 0), BAD);
        refused(x, "covers(0, -1)", () -> x.covers(0, -1), BAD);
    }

    /** All topics of the parts that the patterns name, and of one that none names. */
    private static boolean coversByTrying(String outer, String inner) {
        String[] parts = {"a", "b", "c", "d", "ab", "zzz"};
        for (int size = 1, many = parts.length; size <= 4; size++, many *= parts.length) {
            for (int k = 0; k < many; k++) {
                StringBuilder topic = new StringBuilder();
                for (int p = 0, rest = k; p < size; p++, rest /= parts.length) {
                    topic.append(p == 0 ? "" : ".").append(parts[rest % parts.length]);
                }
                if (fitsByText(inner, topic.toString()) && !fitsByText(outer, topic.toString())) {
                    return false;
                }
            }
        }
        return true;
    }

    private static boolean fitsByText(String pattern, String topic) {
        String[] wanted = pattern.split("\\.");
        String[] parts = topic.split("\\.");
        for (int p = 0; p < wanted.length; p++) {
            if (wanted[p].equals("#")) {
                return true;
            }
            if (p >= parts.length || !wanted[p].equals("*") && !wanted[p].equals(parts[p])) {
                return false;
            }
        }
        return wanted.length == parts.length;
    }

    private static void patternsTold() {
        the("35 pattern");
        Recorded x = new Recorded();
        String[] patterns = {"a.*.zz.#", "aaaa.bbbb.cccc.dddd", "#"};
        for (int q = 0; q < patterns.length; q++) {
            String text = patterns[q];
            queue(x, text, 1, 1, 1, 0);
            for (int i = 0; i < text.length(); i++) {
                due("pattern(" + q + ", " + i + ")", x.pattern(q, i), text.charAt(i));
            }
            due("behind it", x.pattern(q, text.length()), NONE);
        }
        due("pattern(0, -1)", x.pattern(0, -1), NONE);
        due("pattern(0, MOST)", x.pattern(0, MOST), NONE);
        due("NONE isn't refused", x.status(12), 0);
        refused(x, "pattern(3, 0)", () -> x.pattern(3, 0), BAD);
        refused(x, "pattern(-1, 0)", () -> x.pattern(-1, 0), BAD);
    }

    private static void nexts() {
        the("36 next");
        Recorded x = simple(9, 3, 4, 0, 0);
        due("next(0, 0)", x.next(0, 0), NONE);
        due("next(0, 1)", x.next(0, 1), NONE);
        x.publish(0, 0, 0);
        x.publish(1, 1, 0);
        x.publish(0, 3, 0);
        due("next(0, 0)", x.next(0, 0), 1);
        due("nobody", x.next(0, 1), NONE);
        x.credit(0, 2);
        due("who", x.next(0, 1), 0);
        due("nothing is changed", x.next(0, 0), 1);
        x.giveAll(0);
        due("none is next", x.next(0, 0), NONE);
        x.credit(0, 2);
        due("nobody gets none", x.next(0, 1), NONE);
        due("NONE isn't refused", x.status(12), 0);
        refused(x, "next(1, 0)", () -> x.next(1, 0), BAD);
        refused(x, "next(-1, 0)", () -> x.next(-1, 0), BAD);
        refused(x, "next(0, 2)", () -> x.next(0, 2), BAD);
        refused(x, "next(0, -1)", () -> x.next(0, -1), BAD);
    }

    private static void blockedKeys() {
        the("37 blocked");
        Recorded x = simple(9, 3, 4, 0, 9);
        x.publish(0, 3, 0);
        x.publish(7, 3, 0);
        x.publish(2, 3, 0);
        x.publish(3, 0, 0);
        due("none", x.blocked(0), 0);
        x.publish(0, 0, 0);
        x.publish(7, 0, 0);
        x.publish(3, 0, 0);
        due("their first may still be given", x.blocked(0), 0);
        x.give(0);
        x.give(0);
        x.give(0);
        due("behind one that is OUT", x.blocked(0), 0b10000001);
        x.nack(0, 0);
        due("behind one that RESTS", x.blocked(0), 0b10000001);
        x.ack(0, 1);
        due("one is free", x.blocked(0), 0b00000001);
        refused(x, "blocked(1)", () -> x.blocked(1), BAD);
        refused(x, "blocked(-1)", () -> x.blocked(-1), BAD);
    }

    private static void drainedOrder() {
        the("38 drained");
        Recorded x = simple(9, 3, 4, 0, 9);
        due("drained(0, 0)", x.drained(0, 0), NONE);
        int[][] sent = {{0, 0}, {1, 2}, {0, 3}, {2, 2}, {1, 3}, {5, 1}};
        for (int[] one : sent) {
            x.publish(one[0], one[1], 0);
        }
        int[] wants = {1, 4, 3, 5, 0, 2};
        for (int i = 0; i < wants.length; i++) {
            due("drained(0, " + i + ")", x.drained(0, i), wants[i]);
        }
        due("drained(0, 6)", x.drained(0, 6), NONE);
        due("drained(0, -1)", x.drained(0, -1), NONE);
        due("drained(0, MOST)", x.drained(0, MOST), NONE);
        x.give(0);
        due("what is OUT doesn't go", x.drained(0, 0), 3);
        due("nor what is behind it", x.drained(0, 3), 2);
        due("nor what is behind it", x.drained(0, 4), NONE);
        due("NONE isn't refused", x.status(12), 0);
        refused(x, "drained(1, 0)", () -> x.drained(1, 0), BAD);
        refused(x, "drained(-1, 0)", () -> x.drained(-1, 0), BAD);
    }

    private static void untilNext() {
        the("39 until");
        Recorded x = simple(9, 2, 99, 0, 9);
        due("none there", x.until(0), NONE);
        x.publish(0, 0, 0);
        due("now", x.until(0), 0);
        x.give(0);
        due("a lease of 99 and a wait of 1", x.until(0), NONE);
        x.pass(1);
        due("99 at most", x.until(0), 99);
        x.nack(0, 0);
        due("a wait", x.until(0), 1);
        x.pass(1);
        x.give(0);
        x.publish(0, 0, 0);
        due("the one behind, as the first dies", x.until(0), 99);
        refused(x, "until(1)", () -> x.until(1), BAD);
        refused(x, "until(-1)", () -> x.until(-1), BAD);
        Recorded y = simple(9, 3, 4, 3, 9);
        y.publish(0, 0, 0);
        y.give(0);
        due("too old before it is ready", y.until(0), NONE);
    }

    private static void doomedLetters() {
        the("40 doomed");
        Recorded x = new Recorded();
        queue(x, "#", 9, 2, 3, 6);
        queue(x, "#", 9, 1, 5, 0);
        topic(x, "a");
        x.consumer(0);
        x.consumer(1);
        x.credit(0, 1);
        x.credit(1, 2);
        x.publish(0, 0, 0);
        x.publish(1, 0, 0);
        x.publish(2, 0, 0);
        x.giveAll(0);
        x.giveAll(1);
        int[] wants = {0, 0, 0, 0, 0, 2, 5, 5};
        for (int n = 0; n < wants.length; n++) {
            due("doomed(" + n + ")", x.doomed(n), wants[n]);
        }
        due("doomed(99)", x.doomed(99), 5);
        doomedAsTheyAre();
        due("nothing is changed", x.status(4) + x.status(3), 0);
        due("pass(99)", x.pass(99), 5);
        refused(x, "doomed(-1)", () -> x.doomed(-1), BAD);
        refused(x, "doomed(100)", () -> x.doomed(100), BAD);
    }

    private static void doomedAsTheyAre() {
        Recorded x = simple(9, 3, 9, 4, 9);
        x.publish(0, 0, 0);
        x.publish(0, 0, 0);
        x.give(0);
        x.pass(6);
        due("the 2nd is dead", x.queueOf(0, 10), 1);
        due("the 1st is OUT", x.doomed(3), 0);
        due("its lease ends, it rests, and is too old", x.doomed(4), 1);
        x.leave(0);
        due("overdue, but no time passes", x.doomed(0), 0);
        due("overdue", x.doomed(1), 1);
        due("it is next as long as no time passes", x.until(0), 0);
    }

    private static void judges() {
        the("41 judge");
        Recorded x = withCauses();
        x.purge(1);
        for (int k = 0; k < 3; k++) {
            x.publish(k, k, 0);
        }
        long[] order = {6, 5, 4, 0};
        x.row(0, 1, 4);
        for (int i = 0; i < 4; i++) {
            x.set(0, i, order[i]);
        }
        due("as it is", x.judge(1, 0, 3), NONE);
        due("more in the row than goes", x.judge(1, 0, 4), 3);
        due("more goes", x.judge(1, 0, 2), 2);
        due("more goes", x.judge(1, 0, 0), 0);
        x.set(0, 1, 4);
        due("another there", x.judge(1, 0, 3), 1);
        x.row(1, 3, 3);
        x.set(1, 0, 6 + (1L << 32));
        due("a long isn't cut", x.judge(1, 1, 1), 0);
        due("of an empty queue", x.judge(0, 0, 0), NONE);
        due("of an empty queue", x.judge(0, 0, 1), 0);
        due("NONE isn't refused", x.status(12), 0);
        x.show(2, 0, 0);
        refused(x, "judge(2, 0, 1)", () -> x.judge(2, 0, 1), BAD);
        refused(x, "judge(-1, 0, 1)", () -> x.judge(-1, 0, 1), BAD);
        refused(x, "judge(1, 8, 1)", () -> x.judge(1, 8, 1), BAD);
        refused(x, "judge(1, 2, 41)", () -> x.judge(1, 2, 41), BAD);
        refused(x, "judge(1, 2, -1)", () -> x.judge(1, 2, -1), BAD);
        refused(x, "judge(1, 2, 40)", () -> x.judge(1, 2, 40), OTHER);
        refused(x, "judge(1, 3, 40)", () -> x.judge(1, 3, 40), NOTHING);
        refused(x, "judge(1, 0, 5)", () -> x.judge(1, 0, 5), BAD);
        Recorded y = simple(9, 3, 4, 0, 9);
        y.publish(0, 0, 0);
        y.publish(1, 0, 0);
        y.row(0, 4, 2);
        y.set(0, 1, 55);
        due("booleans told they are numbers", y.judge(0, 0, 2), NONE);
    }

    private static int drawSeed;

    private static int draw(int below) {
        drawSeed = drawSeed * 1103515245 + 12345;
        return (drawSeed >>> 16) % below;
    }

    private static void days() {
        the("42 days");
        Recorded x = simple(9, 3, 4, 0, 9);
        x.consumer(0);
        Recorded y = simple(9, 3, 4, 0, 9);
        y.consumer(0);
        refused(x, "days(0)", () -> x.days(0), BAD);
        refused(x, "days(61)", () -> x.days(61), BAD);
        refused(x, "days(-1)", () -> x.days(-1), BAD);
        drawSeed = -123;
        x.seed(drawSeed);
        y.seed(drawSeed);
        for (int day = 0; day < 80; day++) {
            due("days(1)", x.days(1), dayByCalls(y));
            due("SEED", x.status(9), drawSeed);
            y.seed(drawSeed);
            dueAlike("day " + day, x.state(), y.state());
        }
    }

    private static int dayByCalls(Recorded y) {
        int deed = draw(6);
        int did = 0;
        if (deed < 2) {
            int key = draw(8);
            int priority = draw(4);
            y.publish(key, priority, draw(100));
            did = 1;
        } else if (deed < 4) {
            draw(1);
            did = y.give(0) == NONE ? 0 : 1;
        } else {
            int c = draw(2);
            if (y.consumerOf(c, 2) > 0) {
                int first = y.held(c, 0);
                int told = deed == 4 ? y.ack(c, first) : y.nack(c, first);
                did = told < 0 ? 0 : 1;
            }
        }
        y.pass(1);
        return did;
    }

    private static void daysWithNothing() {
        the("42 days");
        Recorded x = new Recorded();
        due("days(60) of nothing", x.days(60), 0);
        due("NOW", x.status(4), 60);
        drawSeed = 1;
        for (int k = 0; k < 60; k++) {
            draw(6);
        }
        due("one draw a day", x.status(9), drawSeed);
        topic(x, "a");
        for (int k = 0; k < 300; k++) {
            x.publish(0, 0, 0);
        }
        due("days(60) of 300 messages", x.days(60), 0);
        for (int k = 0; k < 60; k++) {
            draw(6);
        }
        due("one draw a day", x.status(9), drawSeed);
        due("messages", x.status(2), 300);
    }

    private static void seeds() {
        the("43 seed");
        Recorded x = new Recorded();
        due("seed(LEAST)", x.seed(LEAST), 1);
        due("seed(0)", x.seed(0), LEAST);
        due("status(9)", x.status(9), 0);
        x.days(1);
        due("a draw", x.status(9), 12345);
    }

    private static void images() {
        the("44, 45 image, back");
        Recorded x = withCauses();
        x.publish(0, 1, 5);
        x.give(1);
        x.seed(77);
        x.exclusive(0, 1);
        List<String> before = x.state();
        due("image()", x.image(), 1);
        topic(x, "z.z.z");
        x.seed(5);
        x.exclusive(0, 0);
        queue(x, "#", 20, 1, 1, 0);
        x.consumer(2);
        x.credit(2, 9);
        x.leave(1);
        x.publish(3, 3, 3);
        x.days(60);
        x.bury(NONE);
        x.purge(1);
        x.show(5, NONE, 0);
        due("back()", x.back(), 1);
        dueAlike("all", x.state(), before);
        due("messageOf(4, 2)", x.messageOf(4, 2), 5);
        due("fits(): the topic, too", x.fits(), 2);
        x.publish(6, 2, 9);
        due("a number anew", x.messageOf(5, 2), 9);
        x.days(30);
        due("back() again", x.back(), 1);
        dueAlike("all again", x.state(), before);
        imagesKeepNot();
    }

    private static void imagesKeepNot() {
        Recorded x = withCauses();
        x.row(0, 3, 2);
        x.feed(97);
        refused(x, "back() of nothing", () -> x.back(), STUCK);
        x.image();
        x.set(0, 0, 8);
        x.show(1, 0, 0);
        x.feed(98);
        x.give(99);
        x.back();
        due("shelves stay", x.element(0, 0), 8);
        due("shelves stay", x.holds(1), 16);
        due("the tape stays", x.status(8), 2);
        due("refusals stay", x.status(12) * 10 + x.status(15), 11);
        x.pass(3);
        x.image();
        x.pass(4);
        x.back();
        due("the last image", x.status(4), 16);
    }

    /** What was made behind the image and went by back() leaves nothing to what is made then. */
    private static void beginsAnew() {
        the("45 back");
        Recorded x = new Recorded();
        x.image();
        queue(x, "a.b.#", 20, 5, 9, 3);
        x.exclusive(0, 1);
        topic(x, "a.b");
        x.consumer(0);
        x.credit(0, 9);
        x.publish(0, 1, 5);
        x.publish(1, 1, 5);
        x.publish(2, 1, 5);
        x.giveAll(0);
        x.ack(0, 1);
        x.pass(20);
        x.give(0);
        due("some died", x.queueOf(0, 10), 2);
        x.leave(0);
        due("back()", x.back(), 1);
        due("no queues", x.status(0), 0);
        due("no topic", x.status(7), 0);
        due("no dead", x.status(3), 0);
        due("a queue", queue(x, "*", 2, 1, 1, 0), 0);
        due("a consumer", x.consumer(0), 0);
        int[] wants = {0, 0, 0, 0, 0, 1, 0, 0, 0, 0, 0};
        for (int what = 0; what < wants.length; what++) {
            due("queueOf(0, " + what + ")", x.queueOf(0, what), wants[what]);
        }
        for (int what = 0; what < 5; what++) {
            due("consumerOf(0, " + what + ")", x.consumerOf(0, what), 0);
        }
        due("pattern(0, 1)", x.pattern(0, 1), NONE);
        topic(x, "z");
        x.consumer(0);
        x.credit(0, 1);
        x.credit(1, 1);
        x.publish(3, 0, 1);
        due("none got the latest", x.next(0, 1), 0);
        due("messageOf(0, 0)", x.messageOf(0, 0), 3);
    }

    /** All that there may be at most, and every call on it. */
    private static void fullHouse() {
        the("all at most");
        Recorded x = new Recorded();
        topic(x, "a.b.c.d");
        for (int k = 0; k < 250; k++) {
            x.publish(k % 8, k % 4, k);
        }
        for (int q = 0; q < 8; q++) {
            queue(x, "#", 20, 1 + q % 5, 9, 0);
        }
        for (int c = 0; c < 10; c++) {
            x.consumer(c % 8);
            x.credit(c, 9);
        }
        for (int k = 0; k < 50; k++) {
            due("publish", x.publish(k % 8, k % 4, k), 8);
        }
        due("letters", x.status(5), 160);
        due("dead", x.status(3), 30);
        x.image();
        for (int q = 0; q < 8; q++) {
            due("drained(q, 19)", x.drained(q, 19) >= 250 ? 1 : 0, 1);
            due("until(q)", x.until(q), 0);
            due("blocked(q)", x.blocked(q), 0);
            x.row(q, 2, 40);
            due("judge(q, q, 40)", x.judge(q, q, 40), 0);
            due("giveAll(q)", x.giveAll(q), 8);
            due("blocked(q)", x.blocked(q), 255);
        }
        due("doomed(99)", x.doomed(99), 16);
        due("LATE of those of one try", x.pass(9), 16);
        due("revive(29)", x.revive(29), 29);
        refused(x, "revive(0), of a queue that is full", () -> x.revive(0), FULL);
        due("revive(14), of queue 0", x.revive(14), 28);
        due("bury(NONE)", x.bury(NONE), 28);
        due("back()", x.back(), 1);
        for (int c = 0; c < 10; c++) {
            x.give(c % 8);
            x.leave(c);
        }
        due("credits", x.status(6), 0);
        due("days(60)", x.days(60), 0);
        due("purge(7)", x.purge(7), 20);
        due("fits()", x.fits(), 255);
    }

    private static void statuses() {
        the("46 status");
        Recorded x = withCauses();
        x.row(3, 0, 0);
        x.show(4, 0, 0);
        x.publish(0, 0, 0);
        topic(x, "a.b");
        x.feed(1);
        int[] wants = {2, 2, 5, 3, 13, 1, 6, 2, 1, 1, 2, NONE, 0, 0, 0, 0, 0, NONE};
        for (int what = 0; what < wants.length; what++) {
            due("status(" + what + ")", x.status(what), wants[what]);
        }
        due("status(-1)", x.status(-1), NONE);
        due("status(MOST)", x.status(MOST), NONE);
        due("status(LEAST)", x.status(LEAST), NONE);
        x.give(9);
        x.give(9);
        x.set(4, 0, 0);
        x.set(0, 0, 0);
        x.back();
        x.credit(0, 9);
        due("-82", x.status(12), 2);
        due("-83", x.status(13), 1);
        due("-84", x.status(14), 1);
        due("-85", x.status(15), 1);
        due("-86", x.status(16), 1);
    }
}
