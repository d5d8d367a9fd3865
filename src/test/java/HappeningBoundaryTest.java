/** The boundary cases of promises 13 to 25: what is done to queues, consumers and letters. */
public final class HappeningBoundaryTest extends Checks {
    public static void main(String[] args) {
        exclusiveEdges();
        consumerEdges();
        leaveRefusals();
        leaveEdges();
        creditRefusals();
        creditEdges();
        publishRefusals();
        publishEdges();
        publishToFull();
        publishAtMost();
        giveRefusals();
        giveToNobody();
        giveByKeys();
        giveByPriorities();
        giveRoundAbout();
        giveExclusively();
        giveChanges();
        giveAllEdges();
        ackRefusals();
        ackEdges();
        nackRefusals();
        nackEdges();
        passNumbers();
        passLeases();
        passRests();
        passAges();
        passOrder();
        deadAtMost();
        reviveRefusals();
        reviveEdges();
        buryEdges();
        purgeEdges();
        end("happening");
    }

    // ---- 13 exclusive, 14 consumer

    private static void exclusiveEdges() {
        Recorded x = scene();
        the("13 exclusive: BAD QUEUE");
        refusedWith(x, "exclusive(q, 1)", outside(0, 2), q -> x.exclusive(q, 1), BAD);
        the("13 exclusive: BAD: neither 1 nor 0");
        refusedWith(x, "exclusive(1, is)", outside(0, 1), is -> x.exclusive(1, is), BAD);
        the("13 exclusive: not at first; what it was, also if it stays so");
        only(x, "exclusive(0, 0)", () -> x.exclusive(0, 0), 0);
        due("exclusive(0, 1)", x.exclusive(0, 1), 0);
        only(x, "exclusive(0, 1)", () -> x.exclusive(0, 1), 1);
        due("exclusive(0, 0)", x.exclusive(0, 0), 1);
        due("queueOf(0, 7)", x.queueOf(0, 7), 0);
        due("queueOf(1, 7), another one", x.queueOf(1, 7), 1);
    }

    private static void consumerEdges() {
        Recorded x = scene();
        the("14 consumer: BAD QUEUE");
        refusedWith(x, "consumer(q)", outside(0, 2), q -> x.consumer(q), BAD);
        the("14 consumer: BAD, no QUEUES");
        Recorded y = new Recorded();
        refused(y, "consumer(0)", () -> y.consumer(0), BAD);
        the("14 consumer: numbers from 0 on, never used again, 10 at most in all");
        queue(y, "a", 1, 1, 1, 0);
        queue(y, "b", 1, 1, 1, 0);
        for (int c = 0; c < 10; c++) {
            due("consumer", y.consumer(c % 2), c);
            due("consumerOf(c, 0)", y.consumerOf(c, 0), c % 2);
            due("consumerOf(c, 1): no CREDITS at first", y.consumerOf(c, 1), 0);
            if (c % 3 == 0) {
                y.leave(c);
            }
        }
        the("14 consumer: FULL, the 11th, whoever LEFT");
        refused(y, "consumer(0)", () -> y.consumer(0), FULL);
        y.leave(8);
        refused(y, "consumer(1)", () -> y.consumer(1), FULL);
        the("14 consumer: BAD ahead of FULL");
        refusedWith(y, "consumer(q)", outside(0, 1), q -> y.consumer(q), BAD);
    }

    // ---- 15 leave, 16 credit

    private static void leaveRefusals() {
        Recorded x = scene();
        the("15 leave: BAD CONSUMER");
        refusedWith(x, "leave(c)", outside(0, 3), c -> x.leave(c), BAD);
        the("15 leave: BAD, one that LEFT");
        refused(x, "leave(3)", () -> x.leave(3), BAD);
        the("15 leave: BAD, no CONSUMERS");
        Recorded y = new Recorded();
        refused(y, "leave(0)", () -> y.leave(0), BAD);
    }

    private static void leaveEdges() {
        the("15 leave: one that has nothing OUT");
        Recorded x = simple(9, 3, 4, 0, 5);
        x.publish(0, 0, 0);
        x.consumer(0);
        due("leave(1)", x.leave(1), 0);
        due("consumerOf(1, 3)", x.consumerOf(1, 3), 1);
        due("READY", x.queueOf(0, 1), 1);
        the("15 leave: one whose LETTERS went: ACKNOWLEDGED, dead by REJECTED, dead by LATE");
        Recorded w = crew(3);
        w.giveAll(0);
        w.ack(0, 2);
        due("leave(0)", w.leave(0), 2);
        for (int way = 0; way < 3; way++) {
            Recorded v = simple(1, 1, 1, 0, 1);
            v.publish(0, 0, 0);
            v.give(0);
            due("it goes", way == 0 ? v.ack(0, 0) : way == 1 ? v.nack(0, 0) : v.pass(1), way == 0 ? 0 : 1);
            due("leave(0)", v.leave(0), 0);
        }
        the("15 leave: its LETTERS that are OUT are READY, nothing FAILED, no CREDITS are left");
        x.consumer(0);
        x.credit(2, 1);
        x.publish(1, 0, 0);
        x.publish(2, 0, 0);
        x.publish(3, 0, 0);
        for (int k = 0; k < 4; k++) {
            x.give(0);
        }
        due("leave(0)", x.leave(0), 3);
        int[][] letters = {{0, 0, NONE, NONE}, {2, 0, 2, 4}, {0, 0, NONE, NONE}, {0, 0, NONE, NONE}};
        for (int i = 0; i < letters.length; i++) {
            for (int what = 1; what <= 4; what++) {
                due("letter(0, " + i + ", " + what + ")", x.letter(0, i, what), letters[i][what - 1]);
            }
        }
        due("CREDITS", x.consumerOf(0, 1), 0);
        due("OUT", x.consumerOf(0, 2), 0);
        due("how many it got", x.consumerOf(0, 4), 3);
        the("15 leave: a LETTER that RESTS goes on resting");
        Recorded y = simple(9, 3, 4, 0, 5);
        y.publish(0, 0, 0);
        y.give(0);
        y.nack(0, 0);
        due("leave(0)", y.leave(0), 0);
        due("letter(0, 0, 1)", y.letter(0, 0, 1), 1);
        the("15 leave: a LETTER that FAILED ahead stays FAILED as often, with its CAUSE");
        Recorded u = simple(9, 2, 9, 0, 5);
        u.publish(0, 0, 0);
        u.give(0);
        u.nack(0, 0);
        u.pass(1);
        u.give(0);
        due("leave(0)", u.leave(0), 1);
        due("FAILED", u.letter(0, 0, 2), 1);
        u.consumer(0);
        u.credit(1, 1);
        u.give(0);
        due("nack(1, 0)", u.nack(1, 0), 2);
        due("dead(0, 3)", u.dead(0, 3), 2);
        the("15 leave: TIME brings it nothing then, its LEASES are no more");
        due("pass(9)", x.pass(9), 0);
        due("CREDITS", x.consumerOf(0, 1), 0);
        due("FAILED", x.letter(0, 0, 2), 0);
    }

    private static void creditRefusals() {
        Recorded x = scene();
        the("16 credit: BAD CONSUMER");
        refusedWith(x, "credit(c, 1)", outside(0, 3), c -> x.credit(c, 1), BAD);
        the("16 credit: BAD, one that LEFT, whatever n is");
        refusedWith(x, "credit(3, n)", new int[] {1, 9, 0, 10}, n -> x.credit(3, n), BAD);
        the("16 credit: BAD n (1 to 9)");
        refusedWith(x, "credit(0, n)", outside(1, 9), n -> x.credit(0, n), BAD);
        the("16 credit: FULL: more than 9");
        refused(x, "credit(0, 7) of 3", () -> x.credit(0, 7), FULL);
        refused(x, "credit(0, 9) of 3", () -> x.credit(0, 9), FULL);
        x.credit(0, 6);
        refusedWith(x, "credit(0, n) of 9", new int[] {1, 9}, n -> x.credit(0, n), FULL);
        the("16 credit: BAD n ahead of FULL");
        refusedWith(x, "credit(0, n) of 9", outside(1, 9), n -> x.credit(0, n), BAD);
    }

    private static void creditEdges() {
        the("16 credit: 1 to 9, and 9 in all");
        Recorded x = simple(9, 1, 1, 0, 0);
        due("credit(0, 1)", x.credit(0, 1), 1);
        due("credit(0, 8)", x.credit(0, 8), 9);
        x.consumer(0);
        due("credit(1, 9)", x.credit(1, 9), 9);
    }

    // ---- 17 publish

    private static void publishRefusals() {
        Recorded x = scene();
        the("17 publish: BAD KEY (0 to 7)");
        refusedWith(x, "publish(key, 0, 0)", outside(0, 7), key -> x.publish(key, 0, 0), BAD);
        the("17 publish: BAD PRIORITY (0 to 3)");
        refusedWith(x, "publish(0, priority, 0)", outside(0, 3), priority -> x.publish(0, priority, 0), BAD);
        the("17 publish: STUCK: no TOPIC");
        Recorded y = new Recorded();
        queue(y, "#", 1, 1, 1, 0);
        refused(y, "publish(0, 0, 0)", () -> y.publish(0, 0, 0), STUCK);
        the("17 publish: BAD ahead of STUCK");
        refused(y, "publish(8, 0, 0)", () -> y.publish(8, 0, 0), BAD);
        refused(y, "publish(0, -1, 0)", () -> y.publish(0, -1, 0), BAD);
        the("17 publish: what is on THE TAPE is no TOPIC yet");
        y.feed('a');
        refused(y, "publish(0, 0, 0)", () -> y.publish(0, 0, 0), STUCK);
    }

    private static void publishEdges() {
        the("17 publish: KEYS 0 and 7, PRIORITIES 0 and 3, any int a VALUE");
        Recorded x = new Recorded();
        queue(x, "a", 9, 1, 1, 0);
        topic(x, "a");
        int[][] sent = {{0, 0, LEAST}, {7, 3, MOST}, {0, 3, 0}, {7, 0, -1}};
        for (int m = 0; m < sent.length; m++) {
            due("publish", x.publish(sent[m][0], sent[m][1], sent[m][2]), 1);
            for (int what = 0; what <= 2; what++) {
                due("messageOf(" + m + ", " + what + ")", x.messageOf(m, what), sent[m][what]);
            }
        }
        the("17 publish: READY, FAILED 0 at first");
        int[] letter = {3, 0, 0, NONE, NONE};
        for (int what = 0; what <= 4; what++) {
            due("letter(0, 3, " + what + ")", x.letter(0, 3, what), letter[what]);
        }
        the("17 publish: it fits no QUEUE, and is a MESSAGE");
        topic(x, "b");
        due("publish", x.publish(1, 1, 1), 0);
        due("messages", x.status(2), 5);
        due("letters", x.status(5), 4);
        the("17 publish: it fits all of 8 QUEUES");
        for (int q = 1; q < 8; q++) {
            queue(x, "*", 1, 1, 1, 0);
        }
        topic(x, "a");
        due("publish", x.publish(1, 1, 1), 8);
        the("17 publish: a QUEUE that comes later gets nothing of before");
        Recorded y = new Recorded();
        topic(y, "a");
        due("publish", y.publish(0, 0, 0), 0);
        queue(y, "a", 1, 1, 1, 0);
        due("letters", y.queueOf(0, 0), 0);
    }

    private static void publishToFull() {
        the("17 publish: as many LETTERS as its LIMIT: DEAD at once, by FULL, by QUEUES' numbers");
        Recorded x = new Recorded();
        queue(x, "#", 1, 1, 5, 0);
        queue(x, "a", 2, 1, 5, 0);
        queue(x, "#", 1, 1, 5, 0);
        topic(x, "a");
        x.pass(3);
        due("the first", x.publish(0, 0, 0), 3);
        due("DEAD", x.status(3), 0);
        due("the second, also where it is FULL", x.publish(1, 1, 1), 3);
        int[][] dead = {{1, 0, 3, 1}, {1, 2, 3, 1}};
        for (int i = 0; i < dead.length; i++) {
            for (int what = 0; what <= 3; what++) {
                due("dead(" + i + ", " + what + ")", x.dead(i, what), dead[i][what]);
            }
            due("cause(i, 0, 0)", x.cause(i, 0, 0), 6);
            due("cause(i, 0, 1)", x.cause(i, 0, 1), 3);
        }
        due("how many QUEUES have it", x.messageOf(1, 4), 1);
        the("17 publish: FULL is told with the LIMIT, CAUSED BY none");
        x.show(0, 0, 0);
        due("says(0, 6)", x.says(0, 6), 1);
        due("says(0, 2)", x.says(0, 2), 0);
        the("17 publish: OUT and RESTING are LETTERS, too");
        Recorded y = simple(2, 2, 5, 0, 2);
        y.publish(0, 0, 0);
        y.publish(1, 0, 0);
        y.give(0);
        y.nack(0, 0);
        y.give(0);
        y.publish(2, 0, 0);
        due("DEAD", y.status(3), 1);
        y.ack(0, 1);
        y.publish(3, 0, 0);
        due("DEAD, behind one that went", y.status(3), 1);
        due("LETTERS", y.queueOf(0, 0), 2);
    }

    private static void publishAtMost() {
        the("17 publish: the 300th MESSAGE");
        Recorded x = new Recorded();
        topic(x, "a");
        queue(x, "b", 1, 1, 1, 0);
        for (int m = 0; m < 299; m++) {
            x.publish(m % 8, m % 4, m);
        }
        due("publish", x.publish(7, 3, 299), 0);
        due("messages", x.status(2), 300);
        due("messageOf(299, 2)", x.messageOf(299, 2), 299);
        due("messageOf(0, 2)", x.messageOf(0, 2), 0);
        the("17 publish: FULL: 300 MESSAGES");
        refused(x, "publish(0, 0, 0)", () -> x.publish(0, 0, 0), FULL);
        the("17 publish: BAD ahead of FULL");
        refused(x, "publish(8, 0, 0)", () -> x.publish(8, 0, 0), BAD);
        refused(x, "publish(0, 4, 0)", () -> x.publish(0, 4, 0), BAD);
    }

    // ---- 18 give

    private static void giveRefusals() {
        Recorded x = scene();
        the("18 give: BAD");
        refusedWith(x, "give(q)", outside(0, 2), q -> x.give(q), BAD);
        the("18 give: BAD, no QUEUES");
        Recorded y = new Recorded();
        refused(y, "give(0)", () -> y.give(0), BAD);
    }

    private static void giveToNobody() {
        the("18 give: NONE: there is none, which isn't refused");
        Recorded x = simple(9, 3, 4, 0, 1);
        only(x, "give(0) of an empty QUEUE", () -> x.give(0), NONE);
        x.publish(0, 0, 0);
        x.give(0);
        x.credit(0, 1);
        only(x, "give(0) of one that is OUT", () -> x.give(0), NONE);
        x.nack(0, 0);
        only(x, "give(0) of one that RESTS", () -> x.give(0), NONE);
        the("18 give: NONE: nobody gets it, which isn't refused: no CONSUMERS");
        Recorded y = new Recorded();
        queue(y, "#", 9, 3, 4, 0);
        queue(y, "b", 9, 3, 4, 0);
        topic(y, "a");
        y.publish(0, 0, 0);
        only(y, "give(0)", () -> y.give(0), NONE);
        the("18 give: NONE: nobody gets it: the CONSUMERS are another QUEUE's");
        y.consumer(1);
        y.credit(0, 9);
        only(y, "give(0)", () -> y.give(0), NONE);
        y.exclusive(0, 1);
        only(y, "give(0), EXCLUSIVE", () -> y.give(0), NONE);
        y.exclusive(0, 0);
        the("18 give: NONE: nobody gets it: no CREDITS");
        y.consumer(0);
        only(y, "give(0)", () -> y.give(0), NONE);
        the("18 give: NONE: nobody gets it: they LEFT");
        y.credit(1, 9);
        y.leave(1);
        only(y, "give(0)", () -> y.give(0), NONE);
    }

    private static void giveByKeys() {
        the("18 give: none of the same KEY with a lesser number in the QUEUE, be it READY");
        Recorded x = simple(9, 3, 4, 0, 9);
        x.publish(7, 0, 0);
        x.publish(7, 3, 0);
        due("give(0)", x.give(0), 0);
        the("18 give: none of the same KEY with a lesser number in the QUEUE, be it OUT");
        due("give(0)", x.give(0), NONE);
        the("18 give: none of the same KEY with a lesser number in the QUEUE, be it RESTING");
        x.nack(0, 0);
        due("give(0)", x.give(0), NONE);
        the("18 give: one with a greater number doesn't matter");
        x.pass(1);
        due("give(0)", x.give(0), 0);
        the("18 give: one in another QUEUE doesn't matter");
        queue(x, "#", 9, 3, 4, 0);
        x.consumer(1);
        x.credit(1, 1);
        x.publish(7, 0, 0);
        due("give(1)", x.give(1), 2);
        the("18 give: once it went, the next of its KEY may");
        x.ack(0, 0);
        due("give(0)", x.give(0), 1);
        the("18 give: another KEY may");
        x.publish(6, 0, 0);
        due("give(0)", x.give(0), 3);
    }

    private static void giveByPriorities() {
        the("18 give: the one of the greatest PRIORITY, of several of the least number");
        Recorded x = simple(9, 3, 4, 0, 9);
        int[] priorities = {0, 2, 3, 1, 3, 2, 0};
        for (int key = 0; key < priorities.length; key++) {
            x.publish(key, priorities[key], 0);
        }
        for (int message : new int[] {2, 4, 1, 5, 3, 0, 6, NONE}) {
            due("give(0)", x.give(0), message);
        }
    }

    /** One queue, a consumer for each of the credits, messages of 8 keys. */
    private static Recorded crew(int... credits) {
        Recorded x = new Recorded();
        queue(x, "#", 20, 3, 9, 0);
        topic(x, "a");
        for (int c = 0; c < credits.length; c++) {
            x.consumer(0);
            if (credits[c] > 0) {
                x.credit(c, credits[c]);
            }
        }
        for (int key = 0; key < 8; key++) {
            x.publish(key, 0, 0);
        }
        return x;
    }

    private static void giveRoundAbout() {
        the("18 give: nobody got the latest: the first by numbers, with CREDITS");
        dueGoTo(crew(1, 1), 0, 1, NONE);
        dueGoTo(crew(0, 1, 2), 1, 2, 2, NONE);
        the("18 give: behind the one that got the latest, round about");
        dueGoTo(crew(2, 2, 2), 0, 1, 2, 0, 1, 2, NONE);
        dueGoTo(crew(3, 1, 2), 0, 1, 2, 0, 2, 0, NONE);
        the("18 give: itself at last, if nobody else has CREDITS");
        dueGoTo(crew(0, 4, 0), 1, 1, 1, 1, NONE);
        the("18 give: from the 10th CONSUMER round to the first");
        Recorded x = crew(0, 1, 0, 0, 0, 0, 0, 0, 0, 2);
        dueGoTo(x, 1, 9, 9);
        x.credit(0, 1);
        x.credit(9, 1);
        dueGoTo(x, 0, 9, NONE);
        the("18 give: what nobody gets doesn't change who got the latest");
        Recorded w = crew(1, 0);
        dueGoTo(w, 0, NONE);
        w.credit(0, 1);
        w.credit(1, 1);
        dueGoTo(w, 1, 0, NONE);
        the("18 give: behind one that LEFT, too");
        Recorded y = crew(1, 2, 1);
        dueGoTo(y, 0, 1);
        y.leave(1);
        dueGoTo(y, 2, NONE);
        the("18 give: the latest of this QUEUE, not of another one");
        Recorded z = crew(3, 3);
        queue(z, "b", 9, 3, 9, 0);
        topic(z, "b");
        z.consumer(1);
        z.credit(2, 9);
        dueGoTo(z, 0);
        z.publish(0, 0, 0);
        due("give(1)", z.give(1), 8);
        dueGoTo(z, 1);
    }

    /** These get what is next of queue 0, as it was told ahead; NONE: nobody gets it. */
    private static void dueGoTo(Recorded x, int... consumers) {
        for (int consumer : consumers) {
            due("next(0, 1)", x.next(0, 1), consumer);
            int had = consumer == NONE ? 0 : x.consumerOf(consumer, 4);
            int message = x.give(0);
            due("somebody gets it", message == NONE ? 0 : 1, consumer == NONE ? 0 : 1);
            if (consumer != NONE) {
                due("how many " + consumer + " got", x.consumerOf(consumer, 4), had + 1);
            }
        }
    }

    private static void giveExclusively() {
        the("18 give: EXCLUSIVE: the least number that didn't LEAVE, again and again");
        Recorded x = crew(2, 5, 5);
        x.exclusive(0, 1);
        dueGoTo(x, 0, 0);
        the("18 give: EXCLUSIVE: nobody, if the least has no CREDITS");
        dueGoTo(x, NONE);
        the("18 give: EXCLUSIVE: the next least one, when the least LEFT");
        x.leave(0);
        dueGoTo(x, 1, 1);
        the("18 give: EXCLUSIVE no more: behind the latest");
        x.exclusive(0, 0);
        dueGoTo(x, 2, 1);
        the("18 give: EXCLUSIVE: all LEFT");
        Recorded y = crew(2, 2);
        y.exclusive(0, 1);
        y.leave(0);
        y.leave(1);
        dueGoTo(y, NONE);
    }

    private static void giveChanges() {
        the("18 give: it is OUT, till NOW and LEASE; one CREDIT less");
        Recorded x = simple(9, 3, 99, 0, 1);
        x.pass(5);
        x.publish(0, 0, 0);
        due("give(0)", x.give(0), 0);
        int[] letter = {0, 2, 0, 0, 104};
        for (int what = 0; what <= 4; what++) {
            due("letter(0, 0, " + what + ")", x.letter(0, 0, what), letter[what]);
        }
        due("CREDITS, the last is gone", x.consumerOf(0, 1), 0);
        due("how many it got", x.consumerOf(0, 4), 1);
        due("how many were GIVEN", x.queueOf(0, 8), 1);
    }

    // ---- 19 giveAll

    private static void giveAllEdges() {
        Recorded x = scene();
        the("19 giveAll: BAD");
        refusedWith(x, "giveAll(q)", outside(0, 2), q -> x.giveAll(q), BAD);
        the("19 giveAll: none there, nobody gets it: 0, which isn't refused");
        only(x, "giveAll(2), empty", () -> x.giveAll(2), 0);
        only(x, "giveAll(1), no CREDITS", () -> x.giveAll(1), 0);
        the("19 giveAll: as long as CREDITS are there");
        Recorded y = crew(2, 1, 0);
        due("giveAll(0)", y.giveAll(0), 3);
        due("READY", y.queueOf(0, 1), 5);
        due("CREDITS", y.status(6), 0);
        the("19 giveAll: as long as there is a NEXT: one of each of 8 KEYS");
        Recorded z = crew(9, 9);
        for (int key = 0; key < 8; key++) {
            z.publish(key, 3, 0);
        }
        due("giveAll(0)", z.giveAll(0), 8);
        due("giveAll(0) again", z.giveAll(0), 0);
        due("consumerOf(0, 2)", z.consumerOf(0, 2), 4);
        due("consumerOf(1, 2)", z.consumerOf(1, 2), 4);
        the("19 giveAll: as if they were GIVEN one by one");
        Recorded one = crew(3, 1, 2);
        Recorded two = crew(3, 1, 2);
        one.giveAll(0);
        for (int k = 0; k < 6; k++) {
            two.give(0);
        }
        dueAlike("state", one.state(), two.state());
    }

    // ---- 20 ack, 21 nack

    /** Consumer 0 has 0 and 2 OUT, 1 has 1, 2 LEFT; message 3 RESTS, 4 is READY, 5 went, 6 is dead. */
    private static Recorded working() {
        Recorded x = new Recorded();
        queue(x, "#", 20, 2, 50, 0);
        topic(x, "a");
        for (int c = 0; c < 3; c++) {
            x.consumer(0);
        }
        for (int key = 0; key < 7; key++) {
            x.publish(key, key < 5 ? 0 : 3, 0);
        }
        x.credit(0, 9);
        x.give(0);
        x.ack(0, 5);
        for (int k = 0; k < 2; k++) {
            x.give(0);
            x.nack(0, 6);
            x.pass(1);
        }
        x.give(0);
        x.credit(1, 1);
        x.give(0);
        x.give(0);
        x.give(0);
        x.nack(0, 3);
        x.leave(2);
        return x;
    }

    private static void ackRefusals() {
        Recorded x = working();
        the("20 ack: BAD CONSUMER");
        refusedWith(x, "ack(c, 0)", outside(0, 2), c -> x.ack(c, 0), BAD);
        the("20 ack: BAD, one that LEFT");
        refusedWith(x, "ack(2, m)", new int[] {0, 1, 4}, m -> x.ack(2, m), BAD);
        the("20 ack: BAD, no MESSAGE of that number");
        refusedWith(x, "ack(0, m)", outside(0, 6), m -> x.ack(0, m), BAD);
        the("20 ack: BAD, another CONSUMER's");
        refused(x, "ack(0, 1)", () -> x.ack(0, 1), BAD);
        refused(x, "ack(1, 0)", () -> x.ack(1, 0), BAD);
        the("20 ack: BAD, none that is OUT: RESTING, READY, gone, dead");
        refusedWith(x, "ack(0, m)", new int[] {3, 4, 5, 6}, m -> x.ack(0, m), BAD);
        the("20 ack: BAD, no CONSUMERS");
        Recorded y = new Recorded();
        refused(y, "ack(0, 0)", () -> y.ack(0, 0), BAD);
    }

    private static void ackEdges() {
        Recorded x = working();
        the("20 ack: how many it has OUT, to none; one CREDIT more");
        due("CREDITS", x.consumerOf(0, 1), 7);
        due("ack(0, 2)", x.ack(0, 2), 1);
        due("CREDITS", x.consumerOf(0, 1), 8);
        due("ack(0, 0)", x.ack(0, 0), 0);
        due("CREDITS", x.consumerOf(0, 1), 9);
        refused(x, "ack(0, 0) again", () -> x.ack(0, 0), BAD);
        the("20 ack: the last one that a QUEUE has");
        Recorded y = simple(1, 1, 9, 0, 9);
        y.publish(0, 0, 0);
        y.give(0);
        y.credit(0, 1);
        due("ack(0, 0)", y.ack(0, 0), 0);
        due("LETTERS", y.queueOf(0, 0), 0);
        the("20 ack: 9 CREDITS at most");
        due("CREDITS", y.consumerOf(0, 1), 9);
        the("20 ack: ACKNOWLEDGED, not DEAD");
        due("ACKNOWLEDGED", y.queueOf(0, 9), 1);
        due("DEAD", y.status(3) + y.queueOf(0, 10), 0);
        the("20 ack: the same MESSAGE in another QUEUE stays");
        Recorded z = new Recorded();
        queue(z, "#", 1, 1, 9, 0);
        queue(z, "#", 1, 1, 9, 0);
        topic(z, "a");
        z.consumer(0);
        z.consumer(1);
        z.credit(0, 1);
        z.credit(1, 1);
        z.publish(0, 0, 0);
        z.give(0);
        refused(z, "ack(1, 0), not given yet", () -> z.ack(1, 0), BAD);
        z.give(1);
        due("ack(0, 0)", z.ack(0, 0), 0);
        due("held(1, 0)", z.held(1, 0), 0);
    }

    private static void nackRefusals() {
        Recorded x = working();
        the("21 nack: BAD CONSUMER");
        refusedWith(x, "nack(c, 0)", outside(0, 2), c -> x.nack(c, 0), BAD);
        the("21 nack: BAD, one that LEFT");
        refusedWith(x, "nack(2, m)", new int[] {0, 1, 4}, m -> x.nack(2, m), BAD);
        the("21 nack: BAD, no MESSAGE of that number");
        refusedWith(x, "nack(0, m)", outside(0, 6), m -> x.nack(0, m), BAD);
        the("21 nack: BAD, another CONSUMER's");
        refused(x, "nack(0, 1)", () -> x.nack(0, 1), BAD);
        refused(x, "nack(1, 0)", () -> x.nack(1, 0), BAD);
        the("21 nack: BAD, none that is OUT: RESTING, READY, gone, dead");
        refusedWith(x, "nack(0, m)", new int[] {3, 4, 5, 6}, m -> x.nack(0, m), BAD);
        the("21 nack: BAD, no CONSUMERS");
        Recorded y = new Recorded();
        refused(y, "nack(0, 0)", () -> y.nack(0, 0), BAD);
    }

    private static void nackEdges() {
        the("21 nack: RESTING till NOW and the WAIT: 1, 2, 3, 5 for the 1st to the 4th time");
        Recorded x = simple(9, 5, 99, 0, 9);
        x.pass(7);
        x.publish(0, 0, 0);
        int now = 7;
        int[] waits = {1, 2, 3, 5};
        for (int k = 0; k < waits.length; k++) {
            x.give(0);
            due("nack(0, 0)", x.nack(0, 0), k + 1);
            int[] letter = {0, 1, k + 1, NONE, now + waits[k]};
            for (int what = 0; what <= 4; what++) {
                due("letter(0, 0, " + what + ")", x.letter(0, 0, what), letter[what]);
            }
            due("CREDITS", x.consumerOf(0, 1), 9);
            x.pass(waits[k]);
            now += waits[k];
        }
        the("21 nack: FAILED as many as TRIES: DEAD, how often it FAILED");
        x.give(0);
        due("nack(0, 0)", x.nack(0, 0), 5);
        due("LETTERS", x.queueOf(0, 0), 0);
        due("dead(0, 2)", x.dead(0, 2), 18);
        due("dead(0, 3)", x.dead(0, 3), 5);
        the("21 nack: FAILED less than TRIES: it isn't DEAD");
        Recorded y = simple(9, 2, 99, 0, 9);
        y.publish(0, 0, 0);
        y.give(0);
        due("nack(0, 0)", y.nack(0, 0), 1);
        due("DEAD", y.status(3), 0);
        the("21 nack: TRIES of 1");
        Recorded z = simple(9, 1, 99, 0, 8);
        z.publish(0, 0, 0);
        z.give(0);
        z.credit(0, 2);
        due("nack(0, 0)", z.nack(0, 0), 1);
        due("DEAD", z.status(3), 1);
        due("cause(0, 0, 0)", z.cause(0, 0, 0), 3);
        the("21 nack: 9 CREDITS at most");
        due("CREDITS", z.consumerOf(0, 1), 9);
    }

    // ---- 22 pass

    private static void passNumbers() {
        Recorded x = scene();
        the("22 pass: BAD n (0 to 99)");
        refusedWith(x, "pass(n)", outside(0, 99), n -> x.pass(n), BAD);
        the("22 pass: 0: nothing, also where a LETTER is overdue");
        only(x, "pass(0)", () -> x.pass(0), 0);
        Recorded y = simple(9, 3, 99, 3, 1);
        y.publish(0, 0, 0);
        y.give(0);
        y.pass(5);
        y.leave(0);
        only(y, "pass(0)", () -> y.pass(0), 0);
        due("pass(1)", y.pass(1), 1);
        the("22 pass: 99");
        Recorded z = new Recorded();
        due("pass(99) of nothing", z.pass(99), 0);
        due("NOW", z.status(4), 99);
        the("22 pass: 99 is as 1 and 98");
        Recorded one = scene();
        Recorded two = scene();
        due("DEAD", one.pass(99), two.pass(1) + two.pass(98));
        dueAlike("state", one.state(), two.state());
    }

    private static void passLeases() {
        the("22 pass: OUT, as long as the TIME of its LEASE isn't come");
        Recorded x = simple(9, 2, 7, 0, 9);
        x.pass(3);
        x.publish(0, 0, 0);
        x.give(0);
        x.credit(0, 1);
        due("pass(6)", x.pass(6), 0);
        due("letter(0, 0, 1)", x.letter(0, 0, 1), 2);
        the("22 pass: the TIME of its LEASE come: it FAILS by LATE, 9 CREDITS at most");
        due("pass(1)", x.pass(1), 0);
        int[] letter = {0, 1, 1, NONE, 11};
        for (int what = 0; what <= 4; what++) {
            due("letter(0, 0, " + what + ")", x.letter(0, 0, what), letter[what]);
        }
        due("CREDITS", x.consumerOf(0, 1), 9);
        the("22 pass: LATE as often as TRIES: DEAD, a CREDIT more");
        x.pass(1);
        x.give(0);
        due("CREDITS", x.consumerOf(0, 1), 8);
        due("pass(7)", x.pass(7), 1);
        due("CREDITS", x.consumerOf(0, 1), 9);
        due("dead(0, 2)", x.dead(0, 2), 18);
        due("cause(0, 0, 0)", x.cause(0, 0, 0), 4);
        due("cause(0, 1, 1)", x.cause(0, 1, 1), 10);
        the("22 pass: what is ACKNOWLEDGED ahead isn't LATE");
        x.publish(0, 0, 0);
        x.give(0);
        x.pass(6);
        x.ack(0, 1);
        due("pass(9)", x.pass(9), 0);
    }

    private static void passRests() {
        the("22 pass: RESTING, as long as its TIME isn't come; READY then, FAILED stays");
        Recorded x = simple(9, 5, 99, 0, 9);
        x.publish(0, 0, 0);
        for (int wait : new int[] {1, 2, 3, 5}) {
            x.give(0);
            int failed = x.nack(0, 0);
            due("pass(wait - 1)", x.pass(wait - 1), 0);
            due("RESTING", x.letter(0, 0, 1), 1);
            due("pass(1)", x.pass(1), 0);
            int[] letter = {0, 0, failed, NONE, NONE};
            for (int what = 0; what <= 4; what++) {
                due("letter(0, 0, " + what + ")", x.letter(0, 0, what), letter[what]);
            }
        }
    }

    private static void passAges() {
        the("22 pass: READY, PUBLISHED less long ago than AGE");
        Recorded x = simple(9, 5, 9, 4, 1);
        x.pass(50);
        x.publish(0, 0, 0);
        due("pass(3)", x.pass(3), 0);
        the("22 pass: READY, PUBLISHED as long ago as AGE: DEAD, by OLD");
        due("pass(1)", x.pass(1), 1);
        x.show(0, 0, 0);
        due("says(0, 5)", x.says(0, 5), 4);
        due("says(0, 0)", x.says(0, 0), 54);
        the("22 pass: OUT is not OLD; LATE, it RESTS, and isn't OLD then");
        x.publish(1, 0, 0);
        x.give(0);
        due("pass(8)", x.pass(8), 0);
        due("letter(0, 0, 1)", x.letter(0, 0, 1), 2);
        due("pass(1)", x.pass(1), 0);
        due("letter(0, 0, 1)", x.letter(0, 0, 1), 1);
        the("22 pass: READY by its TIME come, PUBLISHED longer ago than AGE: DEAD at the same TIME");
        due("pass(1)", x.pass(1), 1);
        x.show(0, 1, 0);
        due("says(0, 5)", x.says(0, 5), 10);
        due("says(0, 2)", x.says(0, 2), 1);
        due("cause(1, 1, 0)", x.cause(1, 1, 0), 4);
        the("22 pass: RESTING is not OLD, for all its WAIT");
        Recorded w = simple(9, 5, 9, 3, 1);
        w.publish(0, 0, 0);
        w.give(0);
        w.nack(0, 0);
        w.pass(1);
        w.give(0);
        w.pass(5);
        due("nack(0, 0)", w.nack(0, 0), 2);
        due("pass(1)", w.pass(1), 0);
        due("letter(0, 0, 1)", w.letter(0, 0, 1), 1);
        due("pass(1)", w.pass(1), 1);
        due("dead(0, 3)", w.dead(0, 3), 3);
        the("22 pass: no AGE: never OLD");
        Recorded y = simple(9, 5, 9, 0, 1);
        y.publish(0, 0, 0);
        due("pass(99)", y.pass(99), 0);
        the("22 pass: READY by one that LEAVES: OLD not before TIME PASSES");
        Recorded z = simple(9, 5, 99, 4, 1);
        z.publish(0, 0, 0);
        z.give(0);
        z.pass(9);
        z.leave(0);
        due("READY", z.queueOf(0, 1), 1);
        due("pass(1)", z.pass(1), 1);
        z.show(0, 0, 0);
        due("says(0, 5)", z.says(0, 5), 10);
    }

    private static void passOrder() {
        the("22 pass: by QUEUES, by LETTERS' numbers in each, whatever they die by");
        Recorded x = new Recorded();
        queue(x, "#", 9, 1, 2, 2);
        queue(x, "#", 9, 1, 2, 2);
        topic(x, "a");
        x.consumer(0);
        x.consumer(1);
        x.credit(0, 1);
        x.credit(1, 1);
        x.publish(0, 0, 0);
        x.publish(1, 3, 0);
        x.publish(2, 0, 0);
        x.give(0);
        x.exclusive(1, 1);
        x.give(1);
        due("pass(2)", x.pass(2), 6);
        int[] kinds = {5, 4, 5, 5, 4, 5};
        for (int i = 0; i < kinds.length; i++) {
            due("dead(" + i + ", 0)", x.dead(i, 0), i % 3);
            due("dead(" + i + ", 1)", x.dead(i, 1), i / 3);
            due("cause(" + i + ", 0, 0)", x.cause(i, 0, 0), kinds[i]);
        }
        the("22 pass: 1 by 1: who dies at an earlier TIME is ahead");
        Recorded y = new Recorded();
        queue(y, "#", 9, 1, 2, 5);
        queue(y, "#", 9, 1, 2, 3);
        topic(y, "a");
        y.publish(0, 0, 0);
        due("pass(9)", y.pass(9), 2);
        due("dead(0, 1)", y.dead(0, 1), 1);
        due("dead(0, 2)", y.dead(0, 2), 3);
        due("dead(1, 2)", y.dead(1, 2), 5);
        the("22 pass: how many came to be DEAD, also those that went from THE DEAD since");
        Recorded z = new Recorded();
        queue(z, "#", 20, 1, 2, 1);
        queue(z, "#", 20, 1, 2, 1);
        topic(z, "a");
        for (int m = 0; m < 20; m++) {
            z.publish(0, 0, 0);
        }
        due("pass(1)", z.pass(1), 40);
        due("DEAD", z.status(3), 30);
        due("dead(0, 0)", z.dead(0, 0), 10);
        due("dead(29, 0)", z.dead(29, 0), 19);
    }

    private static void deadAtMost() {
        the("17 publish: THE DEAD are 30 at most; then the first goes");
        Recorded x = simple(1, 1, 1, 0, 0);
        for (int m = 0; m <= 30; m++) {
            x.publish(0, 0, 0);
            due("DEAD", x.status(3), m);
        }
        due("dead(0, 0)", x.dead(0, 0), 1);
        x.publish(0, 0, 0);
        due("DEAD", x.status(3), 30);
        due("dead(0, 0)", x.dead(0, 0), 2);
        due("dead(29, 0)", x.dead(29, 0), 31);
        due("came to be DEAD", x.queueOf(0, 10), 31);
        the("21 nack: DEAD as the last of THE DEAD, of 30 too");
        Recorded y = simple(1, 1, 9, 0, 1);
        for (int m = 0; m <= 30; m++) {
            y.publish(0, 0, 0);
        }
        y.give(0);
        y.nack(0, 0);
        due("DEAD", y.status(3), 30);
        due("dead(29, 0)", y.dead(29, 0), 0);
        due("cause(29, 0, 0)", y.cause(29, 0, 0), 3);
        due("dead(0, 0)", y.dead(0, 0), 2);
    }

    // ---- 23 revive

    private static void reviveRefusals() {
        Recorded x = scene();
        the("23 revive: BAD");
        refusedWith(x, "revive(i)", outside(0, 3), i -> x.revive(i), BAD);
        the("23 revive: BAD, nobody is dead");
        Recorded y = simple(1, 1, 1, 0, 0);
        refusedWith(y, "revive(i)", new int[] {0, 1, -1}, i -> y.revive(i), BAD);
        the("23 revive: FULL: its QUEUE has as many as its LIMIT");
        refusedWith(x, "revive(i)", new int[] {0, 1, 3}, i -> x.revive(i), FULL);
        the("23 revive: another QUEUE isn't FULL");
        due("revive(2)", x.revive(2), 3);
        the("23 revive: FULL no more, when one went");
        x.purge(1);
        due("revive(2)", x.revive(2), 2);
        refused(x, "revive(0)", () -> x.revive(0), FULL);
        the("23 revive: BAD ahead of FULL");
        refused(x, "revive(2)", () -> x.revive(2), BAD);
    }

    private static void reviveEdges() {
        the("23 revive: READY, FAILED 0, no CAUSES");
        Recorded x = scene();
        due("revive(2)", x.revive(2), 3);
        int[] letter = {1, 0, 0, NONE, NONE};
        for (int what = 0; what <= 4; what++) {
            due("letter(0, 0, " + what + ")", x.letter(0, 0, what), letter[what]);
        }
        the("23 revive: among the others by its number: the first, between them, the last");
        Recorded y = simple(4, 1, 9, 0, 9);
        for (int m = 0; m < 4; m++) {
            y.publish(m, 0, 0);
        }
        for (int m : new int[] {0, 2, 3}) {
            y.giveAll(0);
            y.nack(0, m);
        }
        due("revive(1)", y.revive(1), 2);
        dueLetters(y, 1, 2);
        due("revive(0)", y.revive(0), 1);
        dueLetters(y, 0, 1, 2);
        due("revive(0), the last of THE DEAD", y.revive(0), 0);
        dueLetters(y, 0, 1, 2, 3);
        the("23 revive: of THE DEAD the others stay in their order");
        Recorded z = scene();
        z.revive(2);
        int[] messages = {2, 3, 4};
        for (int i = 0; i < messages.length; i++) {
            due("dead(" + i + ", 0)", z.dead(i, 0), messages[i]);
        }
        the("23 revive: it FAILS from the first time on, and its CAUSES are new");
        Recorded w = simple(1, 2, 9, 0, 9);
        w.publish(0, 0, 0);
        for (int k = 0; k < 2; k++) {
            w.give(0);
            w.nack(0, 0);
            w.pass(1);
        }
        w.revive(0);
        w.give(0);
        due("nack(0, 0)", w.nack(0, 0), 1);
        due("letter(0, 0, 4)", w.letter(0, 0, 4), 3);
        w.pass(1);
        w.give(0);
        w.nack(0, 0);
        due("dead(0, 3)", w.dead(0, 3), 2);
        the("23 revive: PUBLISHED when it was: OLD when TIME PASSES");
        Recorded v = simple(1, 2, 9, 3, 9);
        v.publish(0, 0, 0);
        v.pass(3);
        due("revive(0)", v.revive(0), 0);
        due("pass(1)", v.pass(1), 1);
        v.show(0, 0, 0);
        due("says(0, 5)", v.says(0, 5), 4);
        due("says(0, 2)", v.says(0, 2), 0);
    }

    private static void dueLetters(Recorded x, int... messages) {
        due("LETTERS", x.queueOf(0, 0), messages.length);
        for (int i = 0; i < messages.length; i++) {
            due("letter(0, " + i + ", 0)", x.letter(0, i, 0), messages[i]);
        }
    }

    // ---- 24 bury, 25 purge

    private static void buryEdges() {
        Recorded x = scene();
        the("24 bury: BAD: less than NONE, as many as QUEUES");
        refusedWith(x, "bury(q)", new int[] {-2, 3, LEAST, MOST}, q -> x.bury(q), BAD);
        the("24 bury: a QUEUE that has none");
        only(x, "bury(2)", () -> x.bury(2), 0);
        the("24 bury: those of one QUEUE, the others stay");
        due("bury(1)", x.bury(1), 3);
        due("DEAD", x.status(3), 1);
        due("dead(0, 0)", x.dead(0, 0), 1);
        only(x, "bury(1) again", () -> x.bury(1), 0);
        due("came to be DEAD", x.queueOf(1, 10), 3);
        the("24 bury: those of QUEUE 0 alone");
        Recorded v = scene();
        due("bury(0)", v.bury(0), 1);
        int[] messages = {2, 3, 4};
        for (int i = 0; i < messages.length; i++) {
            due("dead(" + i + ", 0)", v.dead(i, 0), messages[i]);
            due("dead(" + i + ", 1)", v.dead(i, 1), 1);
        }
        the("24 bury: NONE: all, of which there are none, or some");
        Recorded y = scene();
        due("bury(NONE)", y.bury(NONE), 4);
        only(y, "bury(NONE) again", () -> y.bury(NONE), 0);
        refused(y, "dead(0, 0)", () -> y.dead(0, 0), BAD);
        the("24 bury: NONE, where there is nothing at all");
        Recorded z = new Recorded();
        only(z, "bury(NONE)", () -> z.bury(NONE), 0);
        refused(z, "bury(0)", () -> z.bury(0), BAD);
        the("24 bury: NONE, all 30");
        Recorded w = simple(1, 1, 1, 0, 0);
        for (int m = 0; m <= 40; m++) {
            w.publish(0, 0, 0);
        }
        due("bury(NONE)", w.bury(NONE), 30);
        due("LETTERS stay", w.queueOf(0, 0), 1);
    }

    private static void purgeEdges() {
        Recorded x = scene();
        the("25 purge: BAD");
        refusedWith(x, "purge(q)", outside(0, 2), q -> x.purge(q), BAD);
        the("25 purge: an empty QUEUE");
        only(x, "purge(2)", () -> x.purge(2), 0);
        the("25 purge: READY and RESTING go, OUT stays, none is DEAD by it");
        due("purge(0)", x.purge(0), 2);
        dueLetters(x, 3);
        due("letter(0, 0, 1)", x.letter(0, 0, 1), 2);
        due("DEAD", x.status(3), 4);
        due("came to be DEAD", x.queueOf(0, 10), 1);
        due("ACKNOWLEDGED", x.queueOf(0, 9), 1);
        due("CREDITS", x.queueOf(0, 6), 5);
        the("25 purge: another QUEUE's stay");
        due("LETTERS", x.queueOf(1, 0), 2);
        the("25 purge: all of a full QUEUE");
        Recorded y = simple(20, 1, 1, 0, 0);
        for (int m = 0; m < 20; m++) {
            y.publish(m % 8, 0, 0);
        }
        due("purge(0)", y.purge(0), 20);
        due("LETTERS", y.queueOf(0, 0), 0);
        y.publish(0, 0, 0);
        due("DEAD", y.status(3), 0);
    }
}
