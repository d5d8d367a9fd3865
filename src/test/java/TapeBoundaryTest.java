/** The boundary cases of promises 9 to 12 and 33 to 35: THE TAPE, topics and patterns. */
public final class TapeBoundaryTest extends Checks {
    private static final int MOST_BYTES = 250;

    public static void main(String[] args) {
        feedRefusals();
        feedEdges();
        wipeEdges();
        topicEdges();
        topicFaults();
        topicFaultsKeep();
        queueNumbers();
        queueEdges();
        patternEdges();
        patternFaults();
        queueRefusalsInOrder();
        queuesAtMost();
        fitsEdges();
        fitsParts();
        coversRefusals();
        coversEdges();
        patternTold();
        end("tape");
    }

    // ---- 9 feed, 10 wipe

    private static void feedRefusals() {
        the("9 feed: BAD, no byte");
        Recorded x = scene();
        refusedWith(x, "feed", outside(0, 255), letter -> x.feed(letter), BAD);
        the("9 feed: FULL, the 251st byte");
        Recorded y = fullTape();
        refusedWith(y, "feed", new int[] {0, 97, 255}, letter -> y.feed(letter), FULL);
        the("9 feed: BAD ahead of FULL");
        refusedWith(y, "feed", outside(0, 255), letter -> y.feed(letter), BAD);
        the("9 feed: what is full may be wiped and fed again");
        due("wipe()", y.wipe(), MOST_BYTES);
        due("feed(97)", y.feed(97), 1);
    }

    private static Recorded fullTape() {
        Recorded x = new Recorded();
        for (int k = 1; k <= MOST_BYTES; k++) {
            due("feed, byte " + k, x.feed('a'), k);
        }
        return x;
    }

    private static void feedEdges() {
        the("9 feed: bytes from 0 to 255, whatever they are");
        Recorded x = new Recorded();
        int size = 0;
        for (int letter : new int[] {0, 1, 45, 127, 128, 254, 255}) {
            size++;
            due("feed(" + letter + ")", x.feed(letter), size);
        }
        due("status(8)", x.status(8), size);
    }

    private static void wipeEdges() {
        the("10 wipe: an empty TAPE");
        Recorded x = new Recorded();
        only(x, "wipe()", () -> x.wipe(), 0);
        the("10 wipe: its size ahead, empty then");
        feedAll(x, "a.b");
        due("wipe()", x.wipe(), 3);
        due("status(8)", x.status(8), 0);
        due("wipe() again", x.wipe(), 0);
        due("topic() of nothing", x.topic(), FAULTS);
        the("10 wipe: nothing of what was there is read then");
        feedAll(x, "aaaa.b");
        x.wipe();
        due("topic c", topic(x, "c"), 1);
        the("10 wipe: a full TAPE");
        Recorded y = fullTape();
        due("wipe()", y.wipe(), MOST_BYTES);
        due("status(8)", y.status(8), 0);
    }

    // ---- 11 topic

    private static void topicEdges() {
        the("11 topic: 1 to 4 parts, of 1 to 4 letters");
        String[] topics = {"a", "aaaa", "a.b", "aaaa.b", "a.bbbb", "a.b.c", "a.b.c.d", "aaaa.bbbb.cccc.dddd"};
        int[] parts = {1, 1, 2, 2, 2, 3, 4, 4};
        for (int k = 0; k < topics.length; k++) {
            Recorded x = new Recorded();
            due("topic " + topics[k], topic(x, topics[k]), parts[k]);
            due("status(7)", x.status(7), parts[k]);
            due("status(8)", x.status(8), 0);
        }
        the("11 topic: letters from a to z");
        for (char letter = 'a'; letter <= 'z'; letter++) {
            due("topic " + letter, topic(new Recorded(), letter + "." + letter), 2);
        }
    }

    private static void topicFaults() {
        the("11 topic: the FAULT: THE TAPE's size, if it ends too early");
        faultOfTopic("", 0);
        faultOfTopic("a.", 2);
        faultOfTopic("aaaa.", 5);
        faultOfTopic("a.b.c.", 6);
        faultOfTopic("aaaa.bbbb.cccc.", 15);
        the("11 topic: the FAULT: a 5th letter, in each part");
        faultOfTopic("aaaaa", 4);
        faultOfTopic("aaaaaaaa", 4);
        faultOfTopic("a.bbbbb", 6);
        faultOfTopic("a.b.ccccc", 8);
        faultOfTopic("aaaa.bbbb.cccc.ddddd", 19);
        the("11 topic: the FAULT: a . behind a 4th part");
        faultOfTopic("a.b.c.d.", 7);
        faultOfTopic("a.b.c.d.e", 7);
        faultOfTopic("aaaa.bbbb.cccc.dddd.", 19);
        the("11 topic: the FAULT: a . where a part has no letter");
        faultOfTopic(".", 0);
        faultOfTopic(".a", 0);
        faultOfTopic("a..b", 2);
        the("11 topic: the FAULT: * and # are no letters of a TOPIC");
        faultOfTopic("*", 0);
        faultOfTopic("#", 0);
        faultOfTopic("a.*", 2);
        faultOfTopic("a.#", 2);
        faultOfTopic("a*", 1);
        the("11 topic: the FAULT: a byte beside a .. z and .");
        for (int letter : new int[] {0, 32, '-', '/', '0', 'A', 'Z', 96, 123, 127, 128, 97 + 128, 255}) {
            faultOfByte(letter);
        }
        the("11 topic: the FAULT is the first one");
        faultOfTopic("aZ.bbbbb*", 1);
        faultOfTopic("a.b.c.d.E", 7);
        the("11 topic: the FAULT of a full TAPE");
        Recorded x = fullTape();
        refusedTapeGone(x, "topic() of 250 letters", () -> x.topic(), FAULTS - 4);
    }

    private static void faultOfTopic(String text, int fault) {
        Recorded x = new Recorded();
        feedAll(x, text);
        refusedTapeGone(x, "topic " + text, () -> x.topic(), FAULTS - fault);
    }

    private static void faultOfByte(int letter) {
        Recorded x = new Recorded();
        x.feed(letter);
        refusedTapeGone(x, "topic of " + letter, () -> x.topic(), FAULTS);
        x.feed('a');
        x.feed(letter);
        refusedTapeGone(x, "topic of a and " + letter, () -> x.topic(), FAULTS - 1);
    }

    private static void topicFaultsKeep() {
        the("11 topic: a FAULT leaves THE TOPIC as it was");
        Recorded x = new Recorded();
        queue(x, "a.b", 5, 1, 1, 0);
        queue(x, "c", 5, 1, 1, 0);
        topic(x, "a.b");
        feedAll(x, "c.");
        refusedTapeGone(x, "topic c.", () -> x.topic(), FAULTS - 2);
        due("fits()", x.fits(), 1);
        due("status(7)", x.status(7), 2);
        the("11 topic: a FAULT leaves no TOPIC, if there was none");
        Recorded y = new Recorded();
        feedAll(y, "c.");
        refusedTapeGone(y, "topic c.", () -> y.topic(), FAULTS - 2);
        refused(y, "fits()", () -> y.fits(), STUCK);
        refused(y, "publish(0, 0, 0)", () -> y.publish(0, 0, 0), STUCK);
    }

    // ---- 12 queue

    private static void queueNumbers() {
        Recorded x = scene();
        the("12 queue: BAD LIMIT (1 to 20), THE TAPE stays");
        refusedWith(x, "limit", outside(1, 20), n -> x.queue(n, 1, 1, 0), BAD);
        the("12 queue: BAD TRIES (1 to 5), THE TAPE stays");
        refusedWith(x, "tries", outside(1, 5), n -> x.queue(1, n, 1, 0), BAD);
        the("12 queue: BAD LEASE (1 to 99), THE TAPE stays");
        refusedWith(x, "lease", outside(1, 99), n -> x.queue(1, 1, n, 0), BAD);
        the("12 queue: BAD AGE (0: none; 1 to 999), THE TAPE stays");
        refusedWith(x, "age", outside(0, 999), n -> x.queue(1, 1, 1, n), BAD);
        the("12 queue: what stays on THE TAPE is read by the next one");
        due("queue(1, 1, 1, 0)", x.queue(1, 1, 1, 0), 3);
        int[] text = {'c', '.', 'd', NONE};
        for (int i = 0; i < text.length; i++) {
            due("pattern(3, " + i + ")", x.pattern(3, i), text[i]);
        }
    }

    private static void queueEdges() {
        the("12 queue: a LIMIT of 1 and one of 20 LETTERS");
        Recorded x = new Recorded();
        due("queue(1, 1, 1, 0)", queue(x, "#", 1, 1, 1, 0), 0);
        due("queue(20, 5, 99, 999)", queue(x, "#", 20, 5, 99, 999), 1);
        topic(x, "a");
        for (int k = 1; k <= 21; k++) {
            x.publish(0, 0, 0);
            due("LETTERS of the LIMIT of 1", x.queueOf(0, 0), 1);
            due("LETTERS of the LIMIT of 20", x.queueOf(1, 0), Math.min(k, 20));
        }
        due("DEAD of the LIMIT of 20", x.queueOf(1, 10), 1);
        the("12 queue: TRIES of 1: DEAD by the 1st FAILURE");
        Recorded y = simple(5, 1, 1, 0, 1);
        y.publish(0, 0, 0);
        y.give(0);
        due("nack(0, 0)", y.nack(0, 0), 1);
        due("LETTERS", y.queueOf(0, 0), 0);
        the("12 queue: TRIES of 5: DEAD by the 5th FAILURE");
        Recorded z = simple(5, 5, 1, 0, 1);
        z.publish(0, 0, 0);
        for (int k = 1; k <= 5; k++) {
            z.give(0);
            due("nack(0, 0)", z.nack(0, 0), k);
            due("DEAD", z.status(3), k / 5);
            z.pass(8);
        }
        queueTimes();
    }

    private static void queueTimes() {
        the("12 queue: a LEASE of 1 and one of 99");
        for (int lease : new int[] {1, 99}) {
            Recorded x = simple(5, 1, lease, 0, 1);
            x.publish(0, 0, 0);
            x.give(0);
            due("letter(0, 0, 4)", x.letter(0, 0, 4), lease);
            due("pass(lease - 1)", x.pass(lease - 1), 0);
            due("pass(1)", x.pass(1), 1);
        }
        the("12 queue: an AGE of 1");
        Recorded y = simple(5, 1, 1, 1, 0);
        y.publish(0, 0, 0);
        due("doomed(1)", y.doomed(1), 1);
        due("pass(1)", y.pass(1), 1);
        the("12 queue: an AGE of 999");
        Recorded z = simple(5, 1, 1, 999, 0);
        z.publish(0, 0, 0);
        for (int k = 0; k < 10; k++) {
            due("pass(99)", z.pass(99), 0);
        }
        due("pass(8), to 998", z.pass(8), 0);
        due("pass(1), to 999", z.pass(1), 1);
        the("12 queue: an AGE of 0 is none");
        Recorded w = simple(5, 1, 1, 0, 0);
        w.publish(0, 0, 0);
        for (int k = 0; k < 11; k++) {
            due("pass(99)", w.pass(99), 0);
        }
        due("doomed(99)", w.doomed(99), 0);
    }

    private static void patternEdges() {
        the("12 queue: PATTERNS of 1 to 4 parts, of 1 to 4 letters, *, and # at the end");
        String[] patterns = {"a", "zzzz", "*", "#", "*.*.*.*", "*.*.*.#", "a.#", "aaaa.bbbb.cccc.#",
            "aaaa.bbbb.cccc.*", "aaaa.bbbb.cccc.dddd", "*.b.*.d", "a.*.#"};
        for (String pattern : patterns) {
            Recorded x = new Recorded();
            due("queue " + pattern, queue(x, pattern, 1, 1, 1, 0), 0);
            due("status(8)", x.status(8), 0);
        }
    }

    private static void patternFaults() {
        the("12 queue: the FAULT: THE TAPE's size, if it ends too early");
        faultOfQueue("", 0);
        faultOfQueue("a.", 2);
        faultOfQueue("*.", 2);
        faultOfQueue("*.*.*.", 6);
        the("12 queue: the FAULT: a 5th letter");
        faultOfQueue("aaaaa", 4);
        faultOfQueue("*.aaaaa", 6);
        faultOfQueue("aaaa.bbbb.cccc.ddddd", 19);
        the("12 queue: the FAULT: a . behind a 4th part");
        faultOfQueue("a.b.c.d.", 7);
        faultOfQueue("*.*.*.*.*", 7);
        faultOfQueue("a.b.c.d.#", 7);
        the("12 queue: the FAULT: a . behind #, also behind a 4th part that is #");
        faultOfQueue("#.", 1);
        faultOfQueue("#.a", 1);
        faultOfQueue("a.#.b", 3);
        faultOfQueue("a.b.c.#.", 7);
        the("12 queue: the FAULT: a letter, * or # behind * or #");
        faultOfQueue("*a", 1);
        faultOfQueue("**", 1);
        faultOfQueue("*#", 1);
        faultOfQueue("#a", 1);
        faultOfQueue("#*", 1);
        faultOfQueue("##", 1);
        the("12 queue: the FAULT: * or # behind a letter");
        faultOfQueue("a*", 1);
        faultOfQueue("a#", 1);
        faultOfQueue("b.aaaa*", 6);
        faultOfQueue("b.aaaa#", 6);
        the("12 queue: the FAULT: a . where a part has nothing");
        faultOfQueue(".", 0);
        faultOfQueue("*..a", 2);
        the("12 queue: the FAULT: a byte beside a .. z, ., * and #");
        faultOfQueue("A", 0);
        faultOfQueue("a.`", 2);
        faultOfQueue("a.{", 2);
        faultOfQueue("+", 0);
        faultOfQueue(")", 0);
        faultOfQueue("\"", 0);
        faultOfQueue("$", 0);
        faultOfQueue("\0", 0);
        the("12 queue: the FAULT of a full TAPE");
        Recorded x = fullTape();
        refusedTapeGone(x, "queue of 250 letters", () -> x.queue(1, 1, 1, 0), FAULTS - 4);
    }

    private static void faultOfQueue(String text, int fault) {
        Recorded x = new Recorded();
        feedAll(x, text);
        refusedTapeGone(x, "queue " + text, () -> x.queue(20, 5, 99, 999), FAULTS - fault);
        due("the first queue then", queue(x, "a", 1, 1, 1, 0), 0);
    }

    private static void queueRefusalsInOrder() {
        the("12 queue: BAD numbers ahead of the FAULT, THE TAPE stays");
        Recorded x = new Recorded();
        feedAll(x, "a.");
        refused(x, "queue(0, 1, 1, 0)", () -> x.queue(0, 1, 1, 0), BAD);
        refused(x, "queue(1, 1, 1, 1000)", () -> x.queue(1, 1, 1, 1000), BAD);
        refusedTapeGone(x, "queue(1, 1, 1, 0)", () -> x.queue(1, 1, 1, 0), FAULTS - 2);
        the("12 queue: a FAULT leaves THE TOPIC as it is");
        topic(x, "b");
        feedAll(x, "c*");
        refusedTapeGone(x, "queue(1, 1, 1, 0)", () -> x.queue(1, 1, 1, 0), FAULTS - 1);
        queue(x, "b", 1, 1, 1, 0);
        due("fits()", x.fits(), 1);
    }

    private static void queuesAtMost() {
        the("12 queue: 8 at most, numbers from 0 on");
        Recorded x = new Recorded();
        for (int q = 0; q < 8; q++) {
            due("queue", queue(x, "a", 1, 1, 1, 0), q);
        }
        due("status(0)", x.status(0), 8);
        the("12 queue: FULL, the 9th, THE TAPE is empty");
        feedAll(x, "b");
        refusedTapeGone(x, "queue(1, 1, 1, 0)", () -> x.queue(1, 1, 1, 0), FULL);
        the("12 queue: the FAULT ahead of FULL");
        feedAll(x, "b.");
        refusedTapeGone(x, "queue(1, 1, 1, 0)", () -> x.queue(1, 1, 1, 0), FAULTS - 2);
        refusedTapeGoneOfNothing(x);
        the("12 queue: BAD numbers ahead of FULL, THE TAPE stays");
        feedAll(x, "b");
        refused(x, "queue(21, 1, 1, 0)", () -> x.queue(21, 1, 1, 0), BAD);
        due("status(8)", x.status(8), 1);
    }

    private static void refusedTapeGoneOfNothing(Recorded x) {
        refusedTapeGone(x, "queue(1, 1, 1, 0) of an empty TAPE", () -> x.queue(1, 1, 1, 0), FAULTS);
    }

    // ---- 33 fits

    private static void fitsEdges() {
        the("33 fits: STUCK: no TOPIC, also where there are QUEUES");
        Recorded x = new Recorded();
        refused(x, "fits()", () -> x.fits(), STUCK);
        queue(x, "#", 1, 1, 1, 0);
        refused(x, "fits()", () -> x.fits(), STUCK);
        the("33 fits: no QUEUES");
        Recorded y = new Recorded();
        topic(y, "a");
        only(y, "fits()", () -> y.fits(), 0);
        the("33 fits: the bits of the first and of the 8th QUEUE");
        String[] patterns = {"a", "b", "b", "b", "b", "b", "b", "*"};
        for (String pattern : patterns) {
            queue(y, pattern, 1, 1, 1, 0);
        }
        only(y, "fits() of a", () -> y.fits(), 0b10000001);
        the("33 fits: none of them");
        topic(y, "b.b");
        only(y, "fits() of b.b", () -> y.fits(), 0);
        the("33 fits: all of them but one, a QUEUE at its LIMIT too");
        topic(y, "b");
        y.publish(0, 0, 0);
        only(y, "fits() of b", () -> y.fits(), 0b11111110);
    }

    private static void fitsParts() {
        the("33 fits: * is any one part, not none and not two");
        dueFits("a.*", new String[] {"a", "a.b", "a.zzzz", "a.b.c", "b.b"}, 0, 1, 1, 0, 0);
        dueFits("*", new String[] {"a", "zzzz", "a.b"}, 1, 1, 0);
        dueFits("*.b", new String[] {"b", "a.b", "b.b", "a.c"}, 0, 1, 1, 0);
        dueFits("*.*.*.*", new String[] {"a.b.c", "a.b.c.d"}, 0, 1);
        the("33 fits: # is any parts, 0 or more");
        dueFits("#", new String[] {"a", "a.b", "a.b.c", "aaaa.bbbb.cccc.dddd"}, 1, 1, 1, 1);
        dueFits("a.#", new String[] {"a", "a.b", "a.b.c", "a.b.c.d", "b", "b.a", "aa"}, 1, 1, 1, 1, 0, 0, 0);
        dueFits("a.b.c.#", new String[] {"a.b", "a.b.c", "a.b.c.d", "a.b.d.c"}, 0, 1, 1, 0);
        dueFits("a.*.#", new String[] {"a", "a.b", "a.b.c", "a.b.c.d", "b.b"}, 0, 1, 1, 1, 0);
        the("33 fits: letters, all of them and in their order");
        dueFits("ab", new String[] {"ab", "ba", "a", "b", "abb", "aab", "a.b"}, 1, 0, 0, 0, 0, 0, 0);
        dueFits("abcd", new String[] {"abcd", "abdc", "dcba", "abc", "bcd"}, 1, 0, 0, 0, 0);
        dueFits("a.b", new String[] {"a.b", "b.a", "ab", "a.c", "c.b", "a", "a.b.a"}, 1, 0, 0, 0, 0, 0, 0);
        dueFits("z", new String[] {"z", "y", "zz"}, 1, 0, 0);
        the("33 fits: nothing is left of a longer one that was read ahead");
        Recorded x = new Recorded();
        queue(x, "a.b.c.d", 1, 1, 1, 0);
        queue(x, "a.#", 1, 1, 1, 0);
        queue(x, "*", 1, 1, 1, 0);
        topic(x, "a.x.y.z");
        due("fits() of a.x.y.z", x.fits(), 0b010);
        topic(x, "a");
        due("fits() of a", x.fits(), 0b110);
    }

    private static void dueFits(String pattern, String[] topics, int... wants) {
        for (int k = 0; k < topics.length; k++) {
            Recorded x = new Recorded();
            queue(x, pattern, 1, 1, 1, 0);
            topic(x, topics[k]);
            due(pattern + " fits " + topics[k], x.fits(), wants[k]);
            due(pattern + " gets " + topics[k], x.publish(0, 0, 0), wants[k]);
        }
    }

    // ---- 34 covers, 35 pattern

    private static void coversRefusals() {
        Recorded x = scene();
        the("34 covers: BAD, the first");
        refusedWith(x, "covers(q, 0)", outside(0, 2), q -> x.covers(q, 0), BAD);
        the("34 covers: BAD, the other one");
        refusedWith(x, "covers(0, q)", outside(0, 2), q -> x.covers(0, q), BAD);
        the("34 covers: BAD, no QUEUES");
        Recorded y = new Recorded();
        refused(y, "covers(0, 0)", () -> y.covers(0, 0), BAD);
    }

    private static void coversEdges() {
        the("34 covers: itself");
        for (String one : new String[] {"a", "*", "#", "a.*", "a.b.c.#", "*.*.*.*"}) {
            dueCovers(one, one, 1, 1);
        }
        the("34 covers: # every one, and only those with a # that come to the same cover it");
        for (String one : new String[] {"a", "*", "a.#", "*.*.*.*", "aaaa.bbbb.cccc.dddd", "a.b.c.#"}) {
            dueCovers("#", one, 1, 0);
        }
        the("34 covers: a TOPIC has a part at least: *.# and # cover one another");
        dueCovers("*.#", "#", 1, 1);
        dueCovers("*.*.#", "*.#", 0, 1);
        the("34 covers: a TOPIC has 4 parts at most: a # behind three may be one part, or none");
        dueCovers("a.b.c.#", "a.b.c.*", 1, 0);
        dueCovers("a.b.c.#", "a.b.c", 1, 0);
        dueCovers("*.*.*.#", "*.*.*.*", 1, 0);
        dueCovers("*.*.*.#", "a.b.#", 0, 0);
        the("34 covers: # none, too");
        dueCovers("a.#", "a", 1, 0);
        dueCovers("a.*", "a", 0, 0);
        dueCovers("a.*", "a.#", 0, 1);
        the("34 covers: * is one part, whatever its letters are");
        dueCovers("*", "a", 1, 0);
        dueCovers("*.b", "a.*", 0, 0);
        dueCovers("*.*", "a.*", 1, 0);
        dueCovers("*", "a.b", 0, 0);
        the("34 covers: letters, all of them and in their order");
        dueCovers("ab", "ba", 0, 0);
        dueCovers("a", "aa", 0, 0);
        dueCovers("a.b", "a.c", 0, 0);
    }

    private static void dueCovers(String outer, String inner, int there, int back) {
        Recorded x = new Recorded();
        queue(x, outer, 1, 1, 1, 0);
        queue(x, inner, 1, 1, 1, 0);
        only(x, outer + " covers " + inner, () -> x.covers(0, 1), there);
        only(x, inner + " covers " + outer, () -> x.covers(1, 0), back);
    }

    private static void patternTold() {
        Recorded x = scene();
        x.wipe();
        queue(x, "aaaa.bbbb.cccc.dddd", 1, 1, 1, 0);
        int longest = x.status(0) - 1;
        the("35 pattern: BAD");
        refusedWith(x, "pattern(q, 0)", outside(0, longest), q -> x.pattern(q, 0), BAD);
        the("35 pattern: the first and the last letter");
        only(x, "pattern(0, 0)", () -> x.pattern(0, 0), '#');
        only(x, "pattern(1, 2)", () -> x.pattern(1, 2), '*');
        only(x, "pattern(longest, 0)", () -> x.pattern(longest, 0), 'a');
        only(x, "pattern(longest, 18)", () -> x.pattern(longest, 18), 'd');
        the("35 pattern: NONE: none such, which isn't refused");
        for (int i : outside(0, 0)) {
            only(x, "pattern(0, " + i + ")", () -> x.pattern(0, i), NONE);
        }
        for (int i : outside(0, 2)) {
            only(x, "pattern(1, " + i + ")", () -> x.pattern(1, i), NONE);
        }
        for (int i : outside(0, 18)) {
            only(x, "pattern(longest, " + i + ")", () -> x.pattern(longest, i), NONE);
        }
        the("35 pattern: . * and # are letters as they were read");
        Recorded y = new Recorded();
        String text = "*.ab.c.#";
        queue(y, text, 1, 1, 1, 0);
        for (int i = 0; i < text.length(); i++) {
            due("pattern(0, " + i + ")", y.pattern(0, i), text.charAt(i));
        }
    }
}
