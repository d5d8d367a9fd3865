import java.util.ArrayList;
import java.util.Comparator;
import java.util.List;
import java.util.Random;
import java.util.TreeMap;

/**
 * Long runs of calls by a fixed random source, each answer beside that of a slow model, which
 * tries out what the program works out: time passing, patterns covering, what is drained.
 */
public final class ModelTest {
    private static final int BAD = -82;
    private static final int OTHER = -83;
    private static final int NOTHING = -84;
    private static final int STUCK = -85;
    private static final int FULL = -86;
    private static final int RUNS = 1500;
    private static final int CALLS = 512;

    private static int wrong = 0;

    public static void main(String[] args) {
        for (int run = 0; run < RUNS && wrong < 5; run++) {
            run(run);
        }
        System.out.println(wrong == 0 ? "model: " + RUNS + " runs, all answers are alike" : wrong + " answers differ");
        if (wrong != 0) {
            System.exit(1);
        }
    }

    private static void run(int seed) {
        Random random = new Random(seed);
        CreditBroker x = new CreditBroker();
        Model m = new Model();
        StringBuilder told = new StringBuilder();
        int[] script = opening(random);
        for (int k = 0; k < CALLS; k++) {
            long[] a = k < script.length ? new long[] {9, script[k], 0, 0, 0, 0} : randomCall(random, m);
            if (k < script.length && script[k] < 0) {
                a = new long[] {-script[k], 1 + random.nextInt(9), 1 + random.nextInt(5), 1 + random.nextInt(6),
                    random.nextInt(2) * random.nextInt(12), 0};
            }
            long got = onBroker(x, a);
            long want = onModel(m, a);
            told.append(java.util.Arrays.toString(a)).append(" -> ").append(got).append('\n');
            if (got != want) {
                wrong++;
                String text = told.toString();
                System.out.println("run " + seed + ", call " + k + ", due is " + want + ", got " + got + "\n.. "
                    + text.substring(Math.max(0, text.length() - 1500)));
                return;
            }
        }
    }

    /** Feeds (a byte) and calls (less than 0) that make a few queues and a topic. */
    private static int[] opening(Random random) {
        List<Integer> script = new ArrayList<>();
        String[] patterns = {"#", "a.*", "a.#", "*", "a", "*.b", "a.b", "*.#", "*.*.*.#", "a.*.c.*"};
        int queues = 1 + random.nextInt(4);
        for (int q = 0; q < queues; q++) {
            for (char c : patterns[random.nextInt(patterns.length)].toCharArray()) {
                script.add((int) c);
            }
            script.add(-12);
        }
        for (char c : new String[] {"a", "a.b", "a.b.c"} [random.nextInt(3)].toCharArray()) {
            script.add((int) c);
        }
        script.add(-11);
        return script.stream().mapToInt(Integer::intValue).toArray();
    }

    private static final int[] OFTEN = {13, 14, 14, 15, 16, 16, 16, 16, 17, 17, 17, 17, 17, 17, 17, 17, 18, 18, 18,
        18, 19, 20, 20, 20, 21, 21, 21, 22, 22, 22, 22, 23, 23, 24, 25, 42, 44, 45, 7, 7};

    private static long[] randomCall(Random random, Model m) {
        int call = random.nextInt(2) == 0 ? OFTEN[random.nextInt(OFTEN.length)] : 2 + random.nextInt(45);
        if (random.nextInt(30) == 0) {
            return new long[] {call, wild(random), wild(random), wild(random), wild(random), wild(random)};
        }
        int q = m.w.queues.isEmpty() ? 0 : random.nextInt(m.w.queues.size());
        int c = m.w.consumers.isEmpty() ? 0 : random.nextInt(m.w.consumers.size());
        int small = random.nextInt(6);
        int dead = m.w.dead.isEmpty() ? 0 : random.nextInt(m.w.dead.size());
        int s = random.nextInt(8);
        int feed = "aaabc...*#z".charAt(random.nextInt(11));
        switch (call) {
            case 2: return new long[] {call, s, random.nextInt(5), random.nextInt(8)};
            case 3: return new long[] {call, s, small, random.nextInt(3) == 0 ? random.nextLong() : random.nextInt(20)};
            case 4: return new long[] {call, s, random.nextInt(8), small, random.nextInt(4), random.nextInt(5)};
            case 5: case 8: return new long[] {call, s, random.nextInt(7)};
            case 7: case 32: return new long[] {call, call == 7 ? s : dead, call == 7 ? dead : random.nextInt(3),
                random.nextInt(3)};
            case 9: return new long[] {call, feed};
            case 12: return new long[] {call, 1 + random.nextInt(20), 1 + random.nextInt(5), 1 + random.nextInt(9),
                random.nextInt(20)};
            case 13: return new long[] {call, q, random.nextInt(2)};
            case 14: case 18: case 19: case 25: case 37: case 39: return new long[] {call, q};
            case 15: return new long[] {call, random.nextInt(3) == 0 ? c : -1};
            case 16: return new long[] {call, c, 1 + random.nextInt(4)};
            case 17: return new long[] {call, random.nextInt(random.nextBoolean() ? 8 : 3), random.nextInt(4),
                random.nextInt()};
            case 20: case 21: return new long[] {call, c, m.someOut(c, random)};
            case 22: return new long[] {call, random.nextInt(random.nextInt(10) == 0 ? 100 : 5)};
            case 23: return new long[] {call, dead};
            case 24: return new long[] {call, random.nextInt(6) == 0 ? q : 99};
            case 26: return new long[] {call, q, random.nextInt(11)};
            case 27: return new long[] {call, q, random.nextInt(8), random.nextInt(5)};
            case 28: return new long[] {call, c, random.nextInt(5)};
            case 29: return new long[] {call, c, random.nextInt(3)};
            case 30: return new long[] {call, m.w.messages.isEmpty() ? 0 : random.nextInt(m.w.messages.size()),
                random.nextInt(6)};
            case 31: return new long[] {call, dead, random.nextInt(4)};
            case 34: return new long[] {call, q, random.nextInt(Math.max(1, m.w.queues.size()))};
            case 35: case 38: return new long[] {call, q, random.nextInt(8)};
            case 36: return new long[] {call, q, random.nextInt(2)};
            case 40: return new long[] {call, random.nextInt(30)};
            case 41: return new long[] {call, q, s, random.nextInt(6)};
            case 42: return new long[] {call, 1 + random.nextInt(random.nextInt(10) == 0 ? 60 : 6)};
            case 46: return new long[] {call, random.nextInt(18)};
            default: return new long[] {call, small, small, small};
        }
    }

    private static long wild(Random random) {
        int[] some = {-1, -2, 0, 1, 2, 8, 10, 20, 21, 40, 41, 99, 100, 250, 300, Integer.MAX_VALUE, Integer.MIN_VALUE};
        return some[random.nextInt(some.length)];
    }

    private static long onBroker(CreditBroker x, long[] told) {
        long[] a = java.util.Arrays.copyOf(told, 6);
        int i = (int) a[1];
        int j = (int) a[2];
        int k = (int) a[3];
        switch ((int) a[0]) {
            case 2: return x.row(i, j, k);
            case 3: return x.set(i, j, a[3]);
            case 4: return x.copy(i, j, k, (int) a[4], (int) a[5]);
            case 5: return x.element(i, j);
            case 6: return x.holds(i);
            case 7: return x.show(i, j, k);
            case 8: return x.says(i, j);
            case 9: return x.feed(i);
            case 10: return x.wipe();
            case 11: return x.topic();
            case 12: return x.queue(i, j, k, (int) a[4]);
            case 13: return x.exclusive(i, j);
            case 14: return x.consumer(i);
            case 15: return x.leave(i);
            case 16: return x.credit(i, j);
            case 17: return x.publish(i, j, k);
            case 18: return x.give(i);
            case 19: return x.giveAll(i);
            case 20: return x.ack(i, j);
            case 21: return x.nack(i, j);
            case 22: return x.pass(i);
            case 23: return x.revive(i);
            case 24: return x.bury(i);
            case 25: return x.purge(i);
            case 26: return x.queueOf(i, j);
            case 27: return x.letter(i, j, k);
            case 28: return x.consumerOf(i, j);
            case 29: return x.held(i, j);
            case 30: return x.messageOf(i, j);
            case 31: return x.dead(i, j);
            case 32: return x.cause(i, j, k);
            case 33: return x.fits();
            case 34: return x.covers(i, j);
            case 35: return x.pattern(i, j);
            case 36: return x.next(i, j);
            case 37: return x.blocked(i);
            case 38: return x.drained(i, j);
            case 39: return x.until(i);
            case 40: return x.doomed(i);
            case 41: return x.judge(i, j, k);
            case 42: return x.days(i);
            case 43: return x.seed(i);
            case 44: return x.image();
            case 45: return x.back();
            default: return x.status(i);
        }
    }

    private static long onModel(Model m, long[] told) {
        long[] a = java.util.Arrays.copyOf(told, 6);
        long answer = m.answer((int) a[0], (int) a[1], (int) a[2], (int) a[3], (int) a[4], (int) a[5], a[3]);
        if (answer <= BAD && m.isRefusal) {
            m.refusals.merge(answer <= -300 ? BAD : (int) answer, 1, Integer::sum);
        }
        return answer;
    }

    // ---- the model

    private record Why(int kind, int time, int failed, int detail) { }

    private static final class Mail {
        int message;
        int state;
        int till = -1;
        int with = -1;
        List<Why> whys = new ArrayList<>();

        Mail twin() {
            Mail t = new Mail();
            t.message = message;
            t.state = state;
            t.till = till;
            t.with = with;
            t.whys = new ArrayList<>(whys);
            return t;
        }
    }

    private static final class Box {
        String pattern;
        int limit;
        int tries;
        int lease;
        int age;
        int exclusive;
        int latest = -1;
        int given;
        int acked;
        int died;
        TreeMap<Integer, Mail> mails = new TreeMap<>();

        Box twin() {
            Box t = new Box();
            t.pattern = pattern;
            t.limit = limit;
            t.tries = tries;
            t.lease = lease;
            t.age = age;
            t.exclusive = exclusive;
            t.latest = latest;
            t.given = given;
            t.acked = acked;
            t.died = died;
            mails.forEach((n, mail) -> t.mails.put(n, mail.twin()));
            return t;
        }
    }

    private record Sent(int key, int priority, int v, int time, int parts) { }

    private record Gone(int message, int box, int time, List<Why> whys) { }

    private static final class Worker {
        int box;
        int credits;
        boolean left;
        int got;
    }

    private static final class Place {
        List<Box> queues = new ArrayList<>();
        List<Worker> consumers = new ArrayList<>();
        List<Sent> messages = new ArrayList<>();
        List<Gone> dead = new ArrayList<>();
        String topic = "";
        int now;
        int seed = 1;

        Place twin() {
            Place t = new Place();
            for (Box box : queues) {
                t.queues.add(box.twin());
            }
            for (Worker worker : consumers) {
                Worker other = new Worker();
                other.box = worker.box;
                other.credits = worker.credits;
                other.left = worker.left;
                other.got = worker.got;
                t.consumers.add(other);
            }
            t.messages = new ArrayList<>(messages);
            t.dead = new ArrayList<>(dead);
            t.topic = topic;
            t.now = now;
            t.seed = seed;
            return t;
        }

        int draw(int n) {
            seed = seed * 1103515245 + 12345;
            return (seed >>> 16) % n;
        }

        boolean may(Box box, Mail mail) {
            int key = messages.get(mail.message).key;
            return mail.state == 0 && box.mails.values().stream()
                .noneMatch(o -> o.message < mail.message && messages.get(o.message).key == key);
        }

        Mail next(Box box) {
            return box.mails.values().stream().filter(mail -> may(box, mail))
                .max(Comparator.comparingInt((Mail mail) -> messages.get(mail.message).priority)
                    .thenComparingInt(mail -> -mail.message)).orElse(null);
        }

        int who(int q) {
            List<Integer> there = new ArrayList<>();
            for (int c = 0; c < consumers.size(); c++) {
                if (consumers.get(c).box == q && !consumers.get(c).left) {
                    there.add(c);
                }
            }
            Box box = queues.get(q);
            if (box.exclusive == 1) {
                return !there.isEmpty() && consumers.get(there.get(0)).credits > 0 ? there.get(0) : -1;
            }
            there.removeIf(c -> consumers.get(c).credits == 0);
            for (int c : there) {
                if (c > box.latest) {
                    return c;
                }
            }
            return there.isEmpty() ? -1 : there.get(0);
        }

        int give(int q) {
            Box box = queues.get(q);
            Mail mail = next(box);
            int c = who(q);
            if (mail == null || c < 0) {
                return -1;
            }
            mail.state = 2;
            mail.with = c;
            mail.till = now + box.lease;
            consumers.get(c).credits--;
            consumers.get(c).got++;
            box.latest = c;
            box.given++;
            return mail.message;
        }

        void die(int q, Mail mail) {
            Box box = queues.get(q);
            box.mails.remove(mail.message);
            box.died++;
            List<Why> back = new ArrayList<>();
            for (Why why : mail.whys) {
                back.add(0, why);
            }
            dead.add(new Gone(mail.message, q, now, back));
            if (dead.size() > 30) {
                dead.remove(0);
            }
        }

        int fail(int q, Mail mail, int kind) {
            Worker worker = consumers.get(mail.with);
            worker.credits = Math.min(9, worker.credits + 1);
            int failed = mail.whys.size() + 1;
            mail.whys.add(new Why(kind, now, failed, mail.with));
            mail.with = -1;
            mail.state = 1;
            mail.till = now + new int[] {0, 1, 2, 3, 5, 8} [failed];
            if (failed == queues.get(q).tries) {
                die(q, mail);
            }
            return failed;
        }

        int passOne() {
            now++;
            int died = 0;
            for (int q = 0; q < queues.size(); q++) {
                Box box = queues.get(q);
                int before = box.died;
                for (Mail mail : new ArrayList<>(box.mails.values())) {
                    if (mail.state == 2 && mail.till == now) {
                        fail(q, mail, 4);
                        continue;
                    }
                    if (mail.state == 1 && mail.till == now) {
                        mail.state = 0;
                        mail.till = -1;
                    }
                    int old = now - messages.get(mail.message).time;
                    if (mail.state == 0 && box.age != 0 && old >= box.age) {
                        mail.whys.add(new Why(5, now, 0, old));
                        die(q, mail);
                    }
                }
                died += box.died - before;
            }
            return died;
        }

        int publish(int key, int priority, int v) {
            int n = messages.size();
            messages.add(new Sent(key, priority, v, now, topic.split("\\.").length));
            int fitting = 0;
            for (int q = 0; q < queues.size(); q++) {
                Box box = queues.get(q);
                if (!fits(box.pattern, topic)) {
                    continue;
                }
                fitting++;
                Mail mail = new Mail();
                mail.message = n;
                if (box.mails.size() == box.limit) {
                    mail.whys.add(new Why(6, now, 0, box.limit));
                    die(q, mail);
                } else {
                    box.mails.put(n, mail);
                }
            }
            return fitting;
        }

        Mail firstOut(int c) {
            return queues.get(consumers.get(c).box).mails.values().stream()
                .filter(mail -> mail.state == 2 && mail.with == c).findFirst().orElse(null);
        }

        void ack(int c, Mail mail) {
            Worker worker = consumers.get(c);
            worker.credits = Math.min(9, worker.credits + 1);
            queues.get(worker.box).mails.remove(mail.message);
            queues.get(worker.box).acked++;
        }

        boolean day() {
            boolean did = false;
            int deed = draw(6);
            if (deed <= 1 && !topic.isEmpty() && messages.size() < 300) {
                int key = draw(8);
                int priority = draw(4);
                publish(key, priority, draw(100));
                did = true;
            } else if ((deed == 2 || deed == 3) && !queues.isEmpty()) {
                did = give(draw(queues.size())) >= 0;
            } else if (deed >= 4 && !consumers.isEmpty()) {
                int c = draw(consumers.size());
                Mail mail = firstOut(c);
                did = mail != null;
                if (did && deed == 4) {
                    ack(c, mail);
                } else if (did) {
                    fail(consumers.get(c).box, mail, 3);
                }
            }
            passOne();
            return did;
        }

        List<Integer> drained(int q) {
            Place thought = twin();
            List<Integer> order = new ArrayList<>();
            Box box = thought.queues.get(q);
            for (Mail mail = thought.next(box); mail != null; mail = thought.next(box)) {
                box.mails.remove(mail.message);
                order.add(mail.message);
            }
            return order;
        }
    }

    private static boolean fits(String pattern, String topic) {
        String[] wanted = pattern.split("\\.");
        String[] parts = topic.split("\\.");
        for (int p = 0; p < wanted.length; p++) {
            if (wanted[p].equals("#")) {
                return true;
            }
            if (p >= parts.length || !wanted[p].equals("*") && !wanted[p].equals(parts[p])) {
                return false;
            }
        }
        return wanted.length == parts.length;
    }

    private static boolean covers(String outer, String inner) {
        List<String> parts = new ArrayList<>(List.of("zzzz"));
        for (String part : (outer + "." + inner).split("\\.")) {
            if (!part.equals("*") && !part.equals("#") && !parts.contains(part)) {
                parts.add(part);
            }
        }
        List<String> topics = new ArrayList<>(List.of(""));
        for (int size = 1; size <= 4; size++) {
            List<String> longer = new ArrayList<>();
            for (String topic : topics) {
                for (String part : parts) {
                    longer.add(topic.isEmpty() ? part : topic + "." + part);
                }
            }
            topics = longer;
            if (topics.stream().anyMatch(topic -> fits(inner, topic) && !fits(outer, topic))) {
                return false;
            }
        }
        return true;
    }

    /** The least place from which no way on makes a topic or pattern; -1: it is one. */
    private static int fault(String text, boolean wild) {
        String part = wild ? "([a-z]{1,4}|\\*)" : "[a-z]{1,4}";
        String last = wild ? "([a-z]{1,4}|\\*|#)" : part;
        String whole = "(" + part + "\\.){0,3}" + last;
        if (text.matches(whole)) {
            return -1;
        }
        for (int n = 1; n <= text.length(); n++) {
            String head = text.substring(0, n);
            if (!head.matches(whole) && !(head + "a").matches(whole)) {
                return n - 1;
            }
        }
        return text.length();
    }

    private static final class Model {
        Place w = new Place();
        Place kept;
        StringBuilder tape = new StringBuilder();
        Object[] shelves = new Object[8];
        TreeMap<Integer, Integer> refusals = new TreeMap<>();
        boolean isRefusal;

        /** A cause with those behind it, the last first. */
        record Shown(List<Why> whys) { }

        record Row(int sort, long[] cells) { }

        int someOut(int c, Random random) {
            if (c >= w.consumers.size() || random.nextInt(8) == 0 || w.firstOut(c) == null) {
                return random.nextInt(Math.max(1, w.messages.size()));
            }
            return w.firstOut(c).message;
        }

        long refuse(int number) {
            isRefusal = true;
            return number;
        }

        static boolean in(int n, int least, int most) {
            return n >= least && n <= most;
        }

        boolean noQueue(int q) {
            return !in(q, 0, w.queues.size() - 1);
        }

        boolean noConsumer(int c) {
            return !in(c, 0, w.consumers.size() - 1);
        }

        boolean nobody(int c) {
            return noConsumer(c) || w.consumers.get(c).left;
        }

        boolean noDead(int i) {
            return !in(i, 0, w.dead.size() - 1);
        }

        List<Mail> out(int c) {
            return w.queues.get(w.consumers.get(c).box).mails.values().stream()
                .filter(mail -> mail.state == 2 && mail.with == c).toList();
        }

        Mail outMail(int c, int message) {
            return nobody(c) ? null : out(c).stream().filter(mail -> mail.message == message).findFirst().orElse(null);
        }

        long answer(int call, int a, int b, int c, int d, int e, long v) {
            isRefusal = false;
            if (call <= 8) {
                return ofShelves(call, a, b, c, d, e, v);
            }
            if (call <= 16) {
                return ofMaking(call, a, b, c, d);
            }
            if (call <= 25) {
                return ofHappening(call, a, b, c);
            }
            if (call <= 32) {
                return ofTelling(call, a, b, c);
            }
            return call <= 41 ? ofAsking(call, a, b, c) : ofRest(call, a);
        }

        long ofShelves(int call, int a, int b, int c, int d, int e, long v) {
            boolean badShelf = !in(a, 0, 7);
            Object held = badShelf ? null : shelves[a];
            switch (call) {
                case 2:
                    if (badShelf || !in(b, 0, 4) || !in(c, 0, 40)) {
                        return refuse(BAD);
                    }
                    shelves[a] = new Row(b, new long[c]);
                    return 1;
                case 3:
                    if (badShelf || held == null || held instanceof Shown) {
                        return refuse(badShelf ? BAD : held == null ? NOTHING : OTHER);
                    }
                    return put((Row) held, b, v);
                case 4:
                    return copy(a, b, c, d, e);
                case 5:
                    return held instanceof Row row && in(b, 0, row.cells.length - 1) ? row.cells[b] : 0;
                case 6:
                    return held == null ? -1 : held instanceof Row row ? row.sort : 10 + ((Shown) held).whys.get(0).kind;
                case 7:
                    if (badShelf || b != -1 && (noDead(b) || !in(c, 0, w.dead.get(b).whys.size() - 1))) {
                        return refuse(BAD);
                    }
                    shelves[a] = b == -1 ? null
                        : new Shown(w.dead.get(b).whys.subList(c, w.dead.get(b).whys.size()));
                    return 1;
                default:
                    if (badShelf || !in(b, 0, 6)) {
                        return refuse(BAD);
                    }
                    return held == null ? refuse(NOTHING) : held instanceof Row ? refuse(OTHER) : says((Shown) held, b);
            }
        }

        long put(Row row, int i, long v) {
            if (!in(i, 0, row.cells.length - 1)) {
                return refuse(BAD);
            }
            int bits = new int[] {8, 16, 32, 64, 0} [row.sort];
            row.cells[i] = bits == 0 ? (v == 0 ? 0 : 1) : v << 64 - bits >> 64 - bits;
            return 1;
        }

        long copy(int p, int q, int i, int j, int n) {
            if (!in(p, 0, 7) || !in(q, 0, 7)) {
                return refuse(BAD);
            }
            Object from = shelves[p];
            Object to = shelves[q];
            if (from instanceof Shown || to instanceof Shown
                    || from instanceof Row f && to instanceof Row t && f.sort != t.sort) {
                return refuse(OTHER);
            }
            if (from == null || to == null) {
                return refuse(NOTHING);
            }
            long[] source = ((Row) from).cells.clone();
            long[] target = ((Row) to).cells;
            if (n < 0 || i < 0 || j < 0 || (long) i + n > source.length || (long) j + n > target.length) {
                return refuse(BAD);
            }
            for (int k = 0; k < n; k++) {
                target[j + k] = source[i + k];
            }
            return n;
        }

        long says(Shown shown, int kind) {
            Why why = shown.whys.get(0);
            boolean isFailure = why.kind == 3 || why.kind == 4;
            boolean fitting = kind == 0 || kind == why.kind || kind == 1 && isFailure || kind == 2 && !isFailure;
            if (!fitting) {
                return refuse(OTHER);
            }
            return kind == 0 ? why.time : kind == 1 ? why.failed : kind == 2 ? shown.whys.size() - 1 : why.detail;
        }

        long ofMaking(int call, int a, int b, int c, int d) {
            switch (call) {
                case 9:
                    if (!in(a, 0, 255) || tape.length() == 250) {
                        return refuse(in(a, 0, 255) ? FULL : BAD);
                    }
                    return tape.append((char) a).length();
                case 10:
                    return emptied().length();
                case 11:
                    String text = emptied();
                    if (fault(text, false) >= 0) {
                        return refuse(-300 - fault(text, false));
                    }
                    w.topic = text;
                    return text.split("\\.").length;
                case 12:
                    return queue(a, b, c, d);
                case 13:
                    if (noQueue(a) || !in(b, 0, 1)) {
                        return refuse(BAD);
                    }
                    int was = w.queues.get(a).exclusive;
                    w.queues.get(a).exclusive = b;
                    return was;
                case 14:
                    if (noQueue(a) || w.consumers.size() == 10) {
                        return refuse(noQueue(a) ? BAD : FULL);
                    }
                    w.consumers.add(new Worker());
                    w.consumers.get(w.consumers.size() - 1).box = a;
                    return w.consumers.size() - 1;
                case 15:
                    return nobody(a) ? refuse(BAD) : leave(a);
                default:
                    if (nobody(a) || !in(b, 1, 9)) {
                        return refuse(BAD);
                    }
                    return w.consumers.get(a).credits + b > 9 ? refuse(FULL) : (w.consumers.get(a).credits += b);
            }
        }

        String emptied() {
            String text = tape.toString();
            tape = new StringBuilder();
            return text;
        }

        long queue(int limit, int tries, int lease, int age) {
            if (!in(limit, 1, 20) || !in(tries, 1, 5) || !in(lease, 1, 99) || !in(age, 0, 999)) {
                return refuse(BAD);
            }
            String text = emptied();
            if (fault(text, true) >= 0) {
                return refuse(-300 - fault(text, true));
            }
            if (w.queues.size() == 8) {
                return refuse(FULL);
            }
            Box box = new Box();
            box.pattern = text;
            box.limit = limit;
            box.tries = tries;
            box.lease = lease;
            box.age = age;
            w.queues.add(box);
            return w.queues.size() - 1;
        }

        long leave(int c) {
            List<Mail> back = out(c);
            for (Mail mail : back) {
                mail.state = 0;
                mail.with = -1;
                mail.till = -1;
            }
            w.consumers.get(c).left = true;
            w.consumers.get(c).credits = 0;
            return back.size();
        }

        long ofHappening(int call, int a, int b, int c) {
            switch (call) {
                case 17:
                    if (!in(a, 0, 7) || !in(b, 0, 3)) {
                        return refuse(BAD);
                    }
                    if (w.topic.isEmpty()) {
                        return refuse(STUCK);
                    }
                    return w.messages.size() == 300 ? refuse(FULL) : w.publish(a, b, c);
                case 18:
                    return noQueue(a) ? refuse(BAD) : w.give(a);
                case 19:
                    int given = 0;
                    while (!noQueue(a) && w.give(a) >= 0) {
                        given++;
                    }
                    return noQueue(a) ? refuse(BAD) : given;
                case 20:
                    if (outMail(a, b) == null) {
                        return refuse(BAD);
                    }
                    w.ack(a, outMail(a, b));
                    return out(a).size();
                case 21:
                    return outMail(a, b) == null ? refuse(BAD) : w.fail(w.consumers.get(a).box, outMail(a, b), 3);
                case 22:
                    int died = 0;
                    for (int k = 0; k < a && a <= 99; k++) {
                        died += w.passOne();
                    }
                    return in(a, 0, 99) ? died : refuse(BAD);
                case 23:
                    return revive(a);
                case 24:
                    if (a != -1 && noQueue(a)) {
                        return refuse(BAD);
                    }
                    int before = w.dead.size();
                    w.dead.removeIf(gone -> a == -1 || gone.box == a);
                    return before - w.dead.size();
                default:
                    if (noQueue(a)) {
                        return refuse(BAD);
                    }
                    int all = w.queues.get(a).mails.size();
                    w.queues.get(a).mails.values().removeIf(mail -> mail.state != 2);
                    return all - w.queues.get(a).mails.size();
            }
        }

        long revive(int i) {
            if (noDead(i)) {
                return refuse(BAD);
            }
            Box box = w.queues.get(w.dead.get(i).box);
            if (box.mails.size() == box.limit) {
                return refuse(FULL);
            }
            Mail mail = new Mail();
            mail.message = w.dead.remove(i).message;
            box.mails.put(mail.message, mail);
            return w.dead.size();
        }

        long ofTelling(int call, int a, int b, int c) {
            switch (call) {
                case 26:
                    return noQueue(a) || !in(b, 0, 10) ? refuse(BAD) : queueOf(a, b);
                case 27:
                    if (noQueue(a) || !in(b, 0, w.queues.get(a).mails.size() - 1) || !in(c, 0, 4)) {
                        return refuse(BAD);
                    }
                    Mail mail = new ArrayList<>(w.queues.get(a).mails.values()).get(b);
                    return new int[] {mail.message, mail.state, mail.whys.size(), mail.with, mail.till} [c];
                case 28:
                    if (noConsumer(a) || !in(b, 0, 4)) {
                        return refuse(BAD);
                    }
                    Worker worker = w.consumers.get(a);
                    return new int[] {worker.box, worker.credits, out(a).size(), worker.left ? 1 : 0, worker.got} [b];
                case 29:
                    return noConsumer(a) || !in(b, 0, out(a).size() - 1) ? refuse(BAD) : out(a).get(b).message;
                case 30:
                    if (!in(a, 0, w.messages.size() - 1) || !in(b, 0, 5)) {
                        return refuse(BAD);
                    }
                    Sent sent = w.messages.get(a);
                    int having = (int) w.queues.stream().filter(box -> box.mails.containsKey(a)).count();
                    return new int[] {sent.key, sent.priority, sent.v, sent.time, having, sent.parts} [b];
                case 31:
                    if (noDead(a) || !in(b, 0, 3)) {
                        return refuse(BAD);
                    }
                    Gone gone = w.dead.get(a);
                    return new int[] {gone.message, gone.box, gone.time, gone.whys.size()} [b];
                default:
                    if (noDead(a) || !in(b, 0, w.dead.get(a).whys.size() - 1) || !in(c, 0, 1)) {
                        return refuse(BAD);
                    }
                    Why why = w.dead.get(a).whys.get(b);
                    return c == 0 ? why.kind : why.time;
            }
        }

        long queueOf(int q, int what) {
            Box box = w.queues.get(q);
            List<Worker> there = w.consumers.stream().filter(o -> o.box == q && !o.left).toList();
            if (what >= 1 && what <= 3) {
                return box.mails.values().stream().filter(mail -> mail.state == what - 1).count();
            }
            int may = (int) box.mails.values().stream().filter(mail -> w.may(box, mail)).count();
            int credits = there.stream().mapToInt(o -> o.credits).sum();
            return new int[] {box.mails.size(), 0, 0, 0, may, there.size(), credits, box.exclusive, box.given,
                box.acked, box.died} [what];
        }

        long ofAsking(int call, int a, int b, int c) {
            if (call == 33) {
                return fits();
            }
            if (call == 40) {
                return in(a, 0, 99) ? doomed(a) : refuse(BAD);
            }
            if (noQueue(a)) {
                return refuse(BAD);
            }
            Box box = w.queues.get(a);
            switch (call) {
                case 34:
                    return noQueue(b) ? refuse(BAD) : covers(box.pattern, w.queues.get(b).pattern) ? 1 : 0;
                case 35:
                    return in(b, 0, box.pattern.length() - 1) ? box.pattern.charAt(b) : -1;
                case 36:
                    if (!in(b, 0, 1)) {
                        return refuse(BAD);
                    }
                    return w.next(box) == null ? -1 : b == 0 ? w.next(box).message : w.who(a);
                case 37:
                    return blocked(box);
                case 38:
                    return in(b, 0, w.drained(a).size() - 1) ? w.drained(a).get(b) : -1;
                case 39:
                    return until(a);
                default:
                    return judge(a, b, c);
            }
        }

        long fits() {
            if (w.topic.isEmpty()) {
                return refuse(STUCK);
            }
            int bits = 0;
            for (int q = 0; q < w.queues.size(); q++) {
                bits += ModelTest.fits(w.queues.get(q).pattern, w.topic) ? 1 << q : 0;
            }
            return bits;
        }

        long blocked(Box box) {
            int bits = 0;
            for (int key = 0; key < 8; key++) {
                int wanted = key;
                List<Mail> ready = box.mails.values().stream()
                    .filter(mail -> mail.state == 0 && w.messages.get(mail.message).key == wanted).toList();
                if (!ready.isEmpty() && ready.stream().noneMatch(mail -> w.may(box, mail))) {
                    bits += 1 << key;
                }
            }
            return bits;
        }

        long until(int q) {
            Place thought = w.twin();
            for (int k = 0; k <= 99; k++) {
                if (thought.next(thought.queues.get(q)) != null) {
                    return k;
                }
                thought.passOne();
            }
            return -1;
        }

        long doomed(int n) {
            Place thought = w.twin();
            int died = 0;
            for (int k = 0; k < n; k++) {
                died += thought.passOne();
            }
            return died;
        }

        long judge(int q, int s, int n) {
            if (!in(s, 0, 7) || !in(n, 0, 40)) {
                return refuse(BAD);
            }
            if (!(shelves[s] instanceof Row row)) {
                return refuse(shelves[s] == null ? NOTHING : OTHER);
            }
            if (row.cells.length < n) {
                return refuse(BAD);
            }
            List<Integer> order = w.drained(q);
            for (int k = 0; k < n; k++) {
                if (k >= order.size() || row.cells[k] != order.get(k)) {
                    return k;
                }
            }
            return order.size() > n ? n : -1;
        }

        long ofRest(int call, int a) {
            switch (call) {
                case 42:
                    int busy = 0;
                    for (int k = 0; k < a && a <= 60; k++) {
                        busy += w.day() ? 1 : 0;
                    }
                    return in(a, 1, 60) ? busy : refuse(BAD);
                case 43:
                    int before = w.seed;
                    w.seed = a;
                    return before;
                case 44:
                    kept = w.twin();
                    return 1;
                case 45:
                    if (kept == null) {
                        return refuse(STUCK);
                    }
                    w = kept.twin();
                    return 1;
                default:
                    return status(a);
            }
        }

        long status(int what) {
            int letters = w.queues.stream().mapToInt(box -> box.mails.size()).sum();
            int credits = w.consumers.stream().mapToInt(worker -> worker.credits).sum();
            int parts = w.topic.isEmpty() ? 0 : w.topic.split("\\.").length;
            int holding = 0;
            for (Object held : shelves) {
                holding += held == null ? 0 : 1;
            }
            int[] told = {w.queues.size(), w.consumers.size(), w.messages.size(), w.dead.size(), w.now, letters,
                credits, parts, tape.length(), w.seed, holding};
            if (in(what, 0, 10)) {
                return told[what];
            }
            return in(what, 12, 16) ? refusals.getOrDefault(BAD - (what - 12), 0) : -1;
        }
    }
}
