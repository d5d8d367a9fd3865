/**
 * A broker of messages: topics, queues with patterns, consumers with credits, leases, waits, and
 * dead letters with their causes. The document ../shared/DOC.md says what each call does.
 */
public final class CreditBroker {
    public static final int NONE = -1;

    private static final int BAD = -82;
    private static final int OTHER = -83;
    private static final int NOTHING = -84;
    private static final int STUCK = -85;
    private static final int FULL = -86;
    private static final int FAULTS = -300;
    private static final int FIRST_REFUSAL_ASKED = 12;

    private static final int MOST_QUEUES = 8;
    private static final int MOST_LETTERS = 20;
    private static final int MOST_TRIES = 5;
    private static final int MOST_LEASE = 99;
    private static final int MOST_AGE = 999;
    private static final int MOST_CONSUMERS = 10;
    private static final int MOST_CREDITS = 9;
    private static final int MOST_MESSAGES = 300;
    private static final int MOST_DEAD = 30;
    private static final int MOST_PASSING = 99;
    private static final int MOST_DAYS = 60;
    private static final int KEYS = 8;
    private static final int PRIORITIES = 4;
    private static final int DRAWN_VALUES = 100;
    private static final int DEEDS = 6;

    private static final int MOST_BYTES = 250;
    private static final int MOST_PARTS = 4;
    private static final int MOST_PART_LETTERS = 4;
    private static final int MOST_TEXT = 19;

    private static final int SHELVES = 8;
    private static final int SORTS = 5;
    private static final int MOST_ELEMENTS = 40;
    private static final int KINDS_HELD = 10;

    private static final int READY = 0;
    private static final int RESTING = 1;
    private static final int OUT = 2;
    private static final int[] WAITS = {1, 2, 3, 5, 8};
    /** Later than any time that 512 calls can reach. */
    private static final int NEVER = 1000000000;

    private static final int ANY_CAUSE = 0;
    private static final int FAILURE = 1;
    private static final int LOSS = 2;
    private static final int BY_REJECTED = 3;
    private static final int BY_LATE = 4;
    private static final int BY_OLD = 5;
    private static final int BY_FULL = 6;
    private static final int[] KIND_ABOVE = {NONE, ANY_CAUSE, ANY_CAUSE, FAILURE, FAILURE, LOSS, LOSS};

    private final World world;
    private final Tape tape;
    /** What was read last, so that a tape at fault leaves the topic as it was. */
    private final Pattern draft;
    private final Shelf[] shelves;
    private final int[] refusals;
    /** The image; null as long as nothing was kept. */
    private World kept;

    public CreditBroker() {
        world = new World(new Messages());
        tape = new Tape();
        draft = new Pattern();
        refusals = new int[BAD - FULL + 1];
        shelves = new Shelf[SHELVES];
        for (int s = 0; s < SHELVES; s++) {
            shelves[s] = new Shelf();
        }
    }

    // ---- shelves

    public int row(int s, int sort, int n) {
        Shelf shelf = shelfAt(s);
        if (shelf == null || !isBelow(sort, SORTS) || !isWithin(n, 0, MOST_ELEMENTS)) {
            return refuse(BAD);
        }
        shelf.holdRow(sort, n);
        return 1;
    }

    public int set(int s, int i, long v) {
        Shelf shelf = shelfAt(s);
        if (shelf == null) {
            return refuse(BAD);
        }
        if (shelf.shown != null) {
            return refuse(OTHER);
        }
        if (!shelf.isRow()) {
            return refuse(NOTHING);
        }
        if (!shelf.hasRun(i, 1)) {
            return refuse(BAD);
        }
        shelf.cells[i] = narrowed(shelf.sort, v);
        return 1;
    }

    public int copy(int p, int q, int i, int j, int n) {
        Shelf from = shelfAt(p);
        Shelf to = shelfAt(q);
        if (from == null || to == null) {
            return refuse(BAD);
        }
        if (from.shown != null || to.shown != null) {
            return refuse(OTHER);
        }
        if (from.isRow() && to.isRow() && from.sort != to.sort) {
            return refuse(OTHER);
        }
        if (!from.isRow() || !to.isRow()) {
            return refuse(NOTHING);
        }
        if (!from.hasRun(i, n) || !to.hasRun(j, n)) {
            return refuse(BAD);
        }
        System.arraycopy(from.cells, i, to.cells, j, n);
        return n;
    }

    public long element(int s, int i) {
        Shelf shelf = shelfAt(s);
        if (shelf == null || !shelf.isRow() || !shelf.hasRun(i, 1)) {
            return 0L;
        }
        return shelf.cells[i];
    }

    public int holds(int s) {
        Shelf shelf = shelfAt(s);
        if (shelf == null) {
            return NONE;
        }
        return shelf.shown == null ? shelf.sort : KINDS_HELD + shelf.shown.kind;
    }

    public int show(int s, int i, int link) {
        Shelf shelf = shelfAt(s);
        if (shelf == null) {
            return refuse(BAD);
        }
        if (i == NONE) {
            shelf.holdNothing();
            return 1;
        }
        Cause shown = causeAt(i, link);
        if (shown == null) {
            return refuse(BAD);
        }
        shelf.holdCause(shown);
        return 1;
    }

    public int says(int s, int kind) {
        Shelf shelf = shelfAt(s);
        if (shelf == null || !isBelow(kind, KIND_ABOVE.length)) {
            return refuse(BAD);
        }
        if (shelf.isRow()) {
            return refuse(OTHER);
        }
        Cause shown = shelf.shown;
        if (shown == null) {
            return refuse(NOTHING);
        }
        return shown.isOf(kind) ? shown.toldAs(kind) : refuse(OTHER);
    }

    // ---- the tape

    public int feed(int letter) {
        if (!isWithin(letter, 0, 255)) {
            return refuse(BAD);
        }
        if (tape.size >= MOST_BYTES) {
            return refuse(FULL);
        }
        tape.add(letter);
        return tape.size;
    }

    public int wipe() {
        int before = tape.size;
        tape.size = 0;
        return before;
    }

    public int topic() {
        int fault = draft.read(tape, false);
        tape.size = 0;
        if (fault != NONE) {
            return refuseFault(fault);
        }
        world.topic.takeFrom(draft);
        return draft.parts;
    }

    // ---- queues and consumers

    public int queue(int limit, int tries, int lease, int age) {
        if (!isWithin(limit, 1, MOST_LETTERS) || !isWithin(tries, 1, MOST_TRIES)
                || !isWithin(lease, 1, MOST_LEASE) || !isWithin(age, 0, MOST_AGE)) {
            return refuse(BAD);
        }
        int fault = draft.read(tape, true);
        tape.size = 0;
        if (fault != NONE) {
            return refuseFault(fault);
        }
        Queue made = world.newQueue();
        if (made == null) {
            return refuse(FULL);
        }
        made.begin(draft, limit, tries, lease, age);
        return made.number;
    }

    public int exclusive(int queue, int is) {
        Queue asked = world.queueAt(queue);
        if (asked == null || !isWithin(is, 0, 1)) {
            return refuse(BAD);
        }
        int before = asBit(asked.isExclusive);
        asked.isExclusive = is == 1;
        return before;
    }

    public int consumer(int queue) {
        if (world.queueAt(queue) == null) {
            return refuse(BAD);
        }
        int made = world.newConsumer(queue);
        return made == NONE ? refuse(FULL) : made;
    }

    public int leave(int consumer) {
        Consumer asked = world.presentConsumer(consumer);
        if (asked == null) {
            return refuse(BAD);
        }
        return world.letGo(asked);
    }

    public int credit(int consumer, int n) {
        Consumer asked = world.presentConsumer(consumer);
        if (asked == null || !isWithin(n, 1, MOST_CREDITS)) {
            return refuse(BAD);
        }
        if (asked.credits + n > MOST_CREDITS) {
            return refuse(FULL);
        }
        asked.credits += n;
        return asked.credits;
    }

    // ---- what happens

    public int publish(int key, int priority, int v) {
        if (!isBelow(key, KEYS) || !isBelow(priority, PRIORITIES)) {
            return refuse(BAD);
        }
        if (world.topic.parts == 0) {
            return refuse(STUCK);
        }
        if (world.messageCount >= MOST_MESSAGES) {
            return refuse(FULL);
        }
        return world.send(key, priority, v);
    }

    public int give(int queue) {
        Queue asked = world.queueAt(queue);
        return asked == null ? refuse(BAD) : world.giveNext(asked);
    }

    public int giveAll(int queue) {
        Queue asked = world.queueAt(queue);
        if (asked == null) {
            return refuse(BAD);
        }
        int given = 0;
        while (given < MOST_LETTERS && world.giveNext(asked) != NONE) {
            given++;
        }
        return given;
    }

    public int ack(int consumer, int message) {
        Queue home = world.homeOf(consumer);
        int place = home == null ? NONE : home.placeOut(consumer, message);
        if (place == NONE) {
            return refuse(BAD);
        }
        world.acknowledge(home, place);
        return home.countOut(consumer);
    }

    public int nack(int consumer, int message) {
        Queue home = world.homeOf(consumer);
        int place = home == null ? NONE : home.placeOut(consumer, message);
        if (place == NONE) {
            return refuse(BAD);
        }
        return world.fail(home, place, BY_REJECTED);
    }

    public int pass(int n) {
        if (!isWithin(n, 0, MOST_PASSING)) {
            return refuse(BAD);
        }
        int died = 0;
        for (int k = 0; k < n; k++) {
            died += world.tick();
        }
        return died;
    }

    public int revive(int i) {
        Dead asked = world.deadAt(i);
        Queue home = asked == null ? null : world.queueAt(asked.queue);
        if (home == null) {
            return refuse(BAD);
        }
        if (home.isFull()) {
            return refuse(FULL);
        }
        world.reviveDead(i, home);
        return world.deadCount;
    }

    public int bury(int queue) {
        if (queue != NONE && world.queueAt(queue) == null) {
            return refuse(BAD);
        }
        return world.forgetDead(queue);
    }

    public int purge(int queue) {
        Queue asked = world.queueAt(queue);
        return asked == null ? refuse(BAD) : asked.dropWaiting();
    }

    // ---- what is told

    public int queueOf(int queue, int what) {
        Queue asked = world.queueAt(queue);
        if (asked == null) {
            return refuse(BAD);
        }
        switch (what) {
            case 0: return asked.count;
            case 1: return asked.countIn(READY);
            case 2: return asked.countIn(RESTING);
            case 3: return asked.countIn(OUT);
            case 4: return asked.countMayGo();
            case 5: return world.countPresent(queue);
            case 6: return world.creditsAt(queue);
            case 7: return asBit(asked.isExclusive);
            case 8: return asked.given;
            case 9: return asked.acknowledged;
            case 10: return asked.died;
            default: return refuse(BAD);
        }
    }

    public int letter(int queue, int i, int what) {
        Queue asked = world.queueAt(queue);
        Letter found = asked == null ? null : asked.letterAt(i);
        if (found == null) {
            return refuse(BAD);
        }
        switch (what) {
            case 0: return found.message;
            case 1: return found.state;
            case 2: return found.failed;
            case 3: return found.consumer;
            case 4: return found.till;
            default: return refuse(BAD);
        }
    }

    public int consumerOf(int consumer, int what) {
        Consumer asked = world.consumerAt(consumer);
        Queue home = world.homeOf(consumer);
        if (asked == null || home == null) {
            return refuse(BAD);
        }
        switch (what) {
            case 0: return asked.queue;
            case 1: return asked.credits;
            case 2: return home.countOut(consumer);
            case 3: return asBit(asked.hasLeft);
            case 4: return asked.got;
            default: return refuse(BAD);
        }
    }

    public int held(int consumer, int i) {
        Queue home = world.homeOf(consumer);
        Letter found = home == null ? null : home.letterAt(home.nthOut(consumer, i));
        return found == null ? refuse(BAD) : found.message;
    }

    public int messageOf(int message, int what) {
        if (!isBelow(message, world.messageCount) || !isBelow(message, MOST_MESSAGES)) {
            return refuse(BAD);
        }
        Messages messages = world.messages;
        switch (what) {
            case 0: return messages.keys[message];
            case 1: return messages.priorities[message];
            case 2: return messages.values[message];
            case 3: return messages.times[message];
            case 4: return world.countQueuesWith(message);
            case 5: return messages.parts[message];
            default: return refuse(BAD);
        }
    }

    public int dead(int i, int what) {
        Dead asked = world.deadAt(i);
        if (asked == null) {
            return refuse(BAD);
        }
        switch (what) {
            case 0: return asked.message;
            case 1: return asked.queue;
            case 2: return asked.time;
            case 3: return asked.countCauses();
            default: return refuse(BAD);
        }
    }

    public int cause(int i, int link, int what) {
        Cause asked = causeAt(i, link);
        if (asked == null || !isWithin(what, 0, 1)) {
            return refuse(BAD);
        }
        return what == 0 ? asked.kind : asked.time;
    }

    // ---- what is asked

    public int fits() {
        return world.topic.parts == 0 ? refuse(STUCK) : world.fittingQueues();
    }

    public int covers(int queue, int other) {
        Queue asked = world.queueAt(queue);
        Queue inner = world.queueAt(other);
        if (asked == null || inner == null) {
            return refuse(BAD);
        }
        return asBit(asked.pattern.takesAllOf(inner.pattern));
    }

    public int pattern(int queue, int i) {
        Queue asked = world.queueAt(queue);
        return asked == null ? refuse(BAD) : asked.pattern.textAt(i);
    }

    public int next(int queue, int what) {
        Queue asked = world.queueAt(queue);
        if (asked == null || !isWithin(what, 0, 1)) {
            return refuse(BAD);
        }
        Letter found = asked.letterAt(asked.nextBut(0));
        if (found == null) {
            return NONE;
        }
        return what == 0 ? found.message : world.receiverIn(asked);
    }

    public int blocked(int queue) {
        Queue asked = world.queueAt(queue);
        return asked == null ? refuse(BAD) : asked.blockedKeys();
    }

    public int drained(int queue, int i) {
        Queue asked = world.queueAt(queue);
        return asked == null ? refuse(BAD) : asked.drainedAt(i);
    }

    public int until(int queue) {
        Queue asked = world.queueAt(queue);
        if (asked == null) {
            return refuse(BAD);
        }
        int at = asked.nextTime(world.time);
        if (at == NEVER || at - world.time > MOST_PASSING) {
            return NONE;
        }
        return at - world.time;
    }

    public int doomed(int n) {
        if (!isWithin(n, 0, MOST_PASSING)) {
            return refuse(BAD);
        }
        return world.countGoneBy(world.time + n);
    }

    public int judge(int queue, int s, int n) {
        Queue asked = world.queueAt(queue);
        Shelf told = shelfAt(s);
        if (asked == null || told == null || !isWithin(n, 0, MOST_ELEMENTS)) {
            return refuse(BAD);
        }
        if (told.shown != null) {
            return refuse(OTHER);
        }
        if (!told.isRow()) {
            return refuse(NOTHING);
        }
        if (!told.hasRun(0, n)) {
            return refuse(BAD);
        }
        return asked.firstWrong(told.cells, n);
    }

    public int days(int n) {
        if (!isWithin(n, 1, MOST_DAYS)) {
            return refuse(BAD);
        }
        int busy = 0;
        for (int k = 0; k < n; k++) {
            busy += asBit(world.actByDraws());
            world.tick();
        }
        return busy;
    }

    public int seed(int v) {
        int before = world.seed;
        world.seed = v;
        return before;
    }

    public int image() {
        if (kept == null) {
            kept = new World(world.messages);
        }
        kept.takeFrom(world);
        return 1;
    }

    public int back() {
        if (kept == null) {
            return refuse(STUCK);
        }
        world.takeFrom(kept);
        return 1;
    }

    public int status(int what) {
        switch (what) {
            case 0: return world.queueCount;
            case 1: return world.consumerCount;
            case 2: return world.messageCount;
            case 3: return world.deadCount;
            case 4: return world.time;
            case 5: return world.countLetters();
            case 6: return world.creditsAt(NONE);
            case 7: return world.topic.parts;
            case 8: return tape.size;
            case 9: return world.seed;
            case 10: return countHolding();
            default: return refusalsAsked(what);
        }
    }

    // ---- helpers of the face

    private int refuse(int number) {
        int place = BAD - number;
        if (isBelow(place, refusals.length)) {
            refusals[place]++;
        }
        return number;
    }

    private int refuseFault(int fault) {
        refuse(BAD);
        return FAULTS - fault;
    }

    private int refusalsAsked(int what) {
        int place = isWithin(what, 0, 99) ? what - FIRST_REFUSAL_ASKED : NONE;
        return isBelow(place, refusals.length) ? refusals[place] : NONE;
    }

    private Shelf shelfAt(int s) {
        return isBelow(s, SHELVES) ? shelves[s] : null;
    }

    private int countHolding() {
        int holding = 0;
        for (int s = 0; s < SHELVES; s++) {
            if (shelves[s].isRow() || shelves[s].shown != null) {
                holding++;
            }
        }
        return holding;
    }

    /** Null, if there is none such. */
    private Cause causeAt(int i, int link) {
        Dead asked = world.deadAt(i);
        if (asked == null || !isBelow(link, asked.countCauses())) {
            return null;
        }
        Cause found = asked.cause;
        for (int k = 0; k < link && found != null; k++) {
            found = found.causedBy;
        }
        return found;
    }

    private static boolean isBelow(int n, int bound) {
        return n >= 0 && n < bound;
    }

    private static boolean isWithin(int n, int least, int most) {
        return n >= least && n <= most;
    }

    private static int asBit(boolean is) {
        return is ? 1 : 0;
    }

    private static long narrowed(int sort, long v) {
        switch (sort) {
            case 0: return (byte) v;
            case 1: return (short) v;
            case 2: return (int) v;
            case 3: return v;
            default: return v != 0L ? 1L : 0L;
        }
    }

    /** The bytes that were fed and not read yet. */
    private static final class Tape {
        final int[] bytes;
        int size;

        Tape() {
            bytes = new int[MOST_BYTES];
        }

        void add(int b) {
            if (isBelow(size, bytes.length)) {
                bytes[size] = b;
                size++;
            }
        }
    }

    /** A pattern, or a topic: a pattern without * and #. */
    private static final class Pattern {
        private static final int STAR_CODE = 0;
        private static final int LETTER_CODES = 32;

        /** A number for each part's letters; STAR_CODE for *. */
        final int[] codes;
        final int[] text;
        int textSize;
        /** All of them, # too; 0: nothing was read. */
        int parts;
        boolean endsOpen;
        private int partLetters;

        Pattern() {
            codes = new int[MOST_PARTS];
            text = new int[MOST_TEXT];
        }

        void takeFrom(Pattern other) {
            System.arraycopy(other.codes, 0, codes, 0, MOST_PARTS);
            System.arraycopy(other.text, 0, text, 0, MOST_TEXT);
            textSize = other.textSize;
            parts = other.parts;
            endsOpen = other.endsOpen;
            partLetters = other.partLetters;
        }

        /** Reads all of a tape: the fault's place, or NONE. */
        int read(Tape tape, boolean isWild) {
            begin();
            for (int place = 0; place < tape.size && place < MOST_BYTES; place++) {
                int b = tape.bytes[place];
                if (place >= MOST_TEXT || !readByte(b, isWild)) {
                    return place;
                }
                text[place] = b;
                textSize = place + 1;
            }
            return partLetters == 0 ? tape.size : NONE;
        }

        private void begin() {
            textSize = 0;
            parts = 1;
            endsOpen = false;
            partLetters = 0;
            codes[0] = 0;
        }

        /** Whether the byte could stand there. */
        private boolean readByte(int b, boolean isWild) {
            if (b >= 'a' && b <= 'z') {
                return readLetter(b);
            }
            if (b == '.') {
                return readDot();
            }
            if (!isWild || partLetters != 0 || b != '*' && b != '#') {
                return false;
            }
            // a full part: no letter can stand behind * or #
            partLetters = MOST_PART_LETTERS;
            endsOpen = b == '#';
            return true;
        }

        private boolean readLetter(int b) {
            int at = parts - 1;
            if (partLetters >= MOST_PART_LETTERS || !isBelow(at, MOST_PARTS)) {
                return false;
            }
            codes[at] = codes[at] * LETTER_CODES + (b - 'a' + 1);
            partLetters++;
            return true;
        }

        private boolean readDot() {
            if (partLetters == 0 || endsOpen || !isBelow(parts, MOST_PARTS)) {
                return false;
            }
            codes[parts] = 0;
            parts++;
            partLetters = 0;
            return true;
        }

        int textAt(int i) {
            return isBelow(i, textSize) && i < MOST_TEXT ? text[i] : NONE;
        }

        /** Whether every topic that fits the other fits this one (a topic as the other: whether it fits). */
        boolean takesAllOf(Pattern other) {
            for (int size = 1; size <= MOST_PARTS; size++) {
                if (other.takesSize(size) && !takesAllOfSize(other, size)) {
                    return false;
                }
            }
            return true;
        }

        private boolean takesAllOfSize(Pattern other, int size) {
            if (!takesSize(size)) {
                return false;
            }
            for (int p = 0; p < size && p < MOST_PARTS; p++) {
                if (!takesAny(p) && (other.takesAny(p) || codes[p] != other.codes[p])) {
                    return false;
                }
            }
            return true;
        }

        private boolean takesSize(int size) {
            return endsOpen ? size >= parts - 1 : size == parts;
        }

        private boolean takesAny(int p) {
            return endsOpen && p >= parts - 1 || p >= 0 && p < MOST_PARTS && codes[p] == STAR_CODE;
        }
    }

    /** What a shelf holds: nothing, a row, or a cause. */
    private static final class Shelf {
        final long[] cells;
        /** Of the row; NONE: no row. */
        int sort;
        int size;
        Cause shown;

        Shelf() {
            cells = new long[MOST_ELEMENTS];
            sort = NONE;
        }

        boolean isRow() {
            return sort != NONE;
        }

        void holdNothing() {
            sort = NONE;
            size = 0;
            shown = null;
        }

        void holdRow(int newSort, int n) {
            for (int i = 0; i < MOST_ELEMENTS; i++) {
                cells[i] = 0L;
            }
            sort = newSort;
            size = n;
            shown = null;
        }

        void holdCause(Cause newShown) {
            holdNothing();
            shown = newShown;
        }

        /** Whether there are n elements from place i on. */
        boolean hasRun(int i, int n) {
            return isWithin(n, 0, size) && isWithin(i, 0, size - n);
        }
    }

    /** Why a letter failed or was lost; never changed, so shelves and images may share it. */
    private static final class Cause {
        final int kind;
        final int time;
        /** How often the letter had failed by then. */
        final int failed;
        /** The consumer, the age, or the limit, as the kind has it. */
        final int detail;
        final int causesBehind;
        final Cause causedBy;

        Cause(int kind, int time, int failed, int detail, Cause causedBy) {
            this.kind = kind;
            this.time = time;
            this.failed = failed;
            this.detail = detail;
            this.causedBy = causedBy;
            this.causesBehind = causedBy == null ? 0 : causedBy.causesBehind + 1;
        }

        boolean isOf(int wanted) {
            int at = kind;
            for (int k = 0; k < KIND_ABOVE.length && isBelow(at, KIND_ABOVE.length); k++) {
                if (at == wanted) {
                    return true;
                }
                at = KIND_ABOVE[at];
            }
            return false;
        }

        int toldAs(int wanted) {
            switch (wanted) {
                case ANY_CAUSE: return time;
                case FAILURE: return failed;
                case LOSS: return causesBehind;
                default: return detail;
            }
        }
    }

    /** All messages; what a number stands for is written once, but for numbers that back() freed. */
    private static final class Messages {
        final int[] keys;
        final int[] priorities;
        final int[] values;
        final int[] times;
        final int[] parts;

        Messages() {
            keys = new int[MOST_MESSAGES];
            priorities = new int[MOST_MESSAGES];
            values = new int[MOST_MESSAGES];
            times = new int[MOST_MESSAGES];
            parts = new int[MOST_MESSAGES];
        }

        void put(int message, int key, int priority, int v, int time, int topicParts) {
            if (isBelow(message, MOST_MESSAGES)) {
                keys[message] = key;
                priorities[message] = priority;
                values[message] = v;
                times[message] = time;
                parts[message] = topicParts;
            }
        }
    }

    /** A message in a queue; what its queue needs of the message stands here again. */
    private static final class Letter {
        int message;
        int key;
        int priority;
        int published;
        int state;
        int failed;
        /** NONE, if it isn't out. */
        int consumer;
        /** The time it rests or is out till; NONE, if it is ready. */
        int till;
        /** The last one; null, if it never failed. */
        Cause cause;

        void begin(Messages messages, int number) {
            message = number;
            if (isBelow(number, MOST_MESSAGES)) {
                key = messages.keys[number];
                priority = messages.priorities[number];
                published = messages.times[number];
            }
            failed = 0;
            cause = null;
            makeReady();
        }

        void takeFrom(Letter other) {
            message = other.message;
            key = other.key;
            priority = other.priority;
            published = other.published;
            state = other.state;
            failed = other.failed;
            consumer = other.consumer;
            till = other.till;
            cause = other.cause;
        }

        boolean isOutWith(int asked) {
            return state == OUT && consumer == asked;
        }

        void makeReady() {
            state = READY;
            consumer = NONE;
            till = NONE;
        }

        void rest(int restTill) {
            state = RESTING;
            consumer = NONE;
            till = restTill;
        }

        void goOut(int newConsumer, int leaseTill) {
            state = OUT;
            consumer = newConsumer;
            till = leaseTill;
        }
    }

    /** A queue and its letters, by their messages' numbers. */
    private static final class Queue {
        final int number;
        final Pattern pattern;
        /** All made once; those from count on are spare. */
        final Letter[] letters;
        int count;
        int limit;
        int tries;
        int lease;
        int age;
        boolean isExclusive;
        /** The consumer that got the latest; NONE at first. */
        int latest;
        int given;
        int acknowledged;
        int died;

        Queue(int number) {
            this.number = number;
            pattern = new Pattern();
            letters = new Letter[MOST_LETTERS];
            for (int i = 0; i < MOST_LETTERS; i++) {
                letters[i] = new Letter();
            }
        }

        void begin(Pattern read, int newLimit, int newTries, int newLease, int newAge) {
            pattern.takeFrom(read);
            count = 0;
            limit = newLimit;
            tries = newTries;
            lease = newLease;
            age = newAge;
            isExclusive = false;
            latest = NONE;
            given = 0;
            acknowledged = 0;
            died = 0;
        }

        void takeFrom(Queue other) {
            pattern.takeFrom(other.pattern);
            count = other.count;
            limit = other.limit;
            tries = other.tries;
            lease = other.lease;
            age = other.age;
            isExclusive = other.isExclusive;
            latest = other.latest;
            given = other.given;
            acknowledged = other.acknowledged;
            died = other.died;
            for (int i = 0; i < count && i < MOST_LETTERS; i++) {
                letters[i].takeFrom(other.letters[i]);
            }
        }

        boolean isFull() {
            return count >= limit || count >= MOST_LETTERS;
        }

        /** Null, if there is none such. */
        Letter letterAt(int i) {
            return i >= 0 && i < count && i < MOST_LETTERS ? letters[i] : null;
        }

        /** A message comes in, ready, among the others by its number. */
        void insert(Messages messages, int message) {
            if (isFull()) {
                return;
            }
            int at = count;
            Letter spare = letters[at];
            for (int i = count; i > 0 && letters[i - 1].message > message; i--) {
                letters[i] = letters[i - 1];
                at = i - 1;
            }
            letters[at] = spare;
            spare.begin(messages, message);
            count++;
        }

        void removeAt(int place) {
            if (place < 0 || place >= count) {
                return;
            }
            Letter gone = letters[place];
            for (int i = place; i < count - 1; i++) {
                letters[i] = letters[i + 1];
            }
            count--;
            letters[count] = gone;
        }

        int countIn(int state) {
            int found = 0;
            for (int i = 0; i < count; i++) {
                if (letters[i].state == state) {
                    found++;
                }
            }
            return found;
        }

        /** All that are ready or resting go: how many. */
        int dropWaiting() {
            int before = count;
            for (int i = before - 1; i >= 0; i--) {
                if (letters[i].state != OUT) {
                    removeAt(i);
                }
            }
            return before - count;
        }

        int placeOf(int message) {
            for (int place = 0; place < count; place++) {
                if (letters[place].message == message) {
                    return place;
                }
            }
            return NONE;
        }

        /** The place of a message that a consumer has out; NONE. */
        int placeOut(int consumer, int message) {
            int place = placeOf(message);
            Letter found = letterAt(place);
            return found != null && found.isOutWith(consumer) ? place : NONE;
        }

        /** The place of the i-th letter that a consumer has out; NONE. */
        int nthOut(int consumer, int i) {
            int seen = 0;
            for (int place = 0; place < count; place++) {
                if (letters[place].isOutWith(consumer)) {
                    if (seen == i) {
                        return place;
                    }
                    seen++;
                }
            }
            return NONE;
        }

        int countOut(int consumer) {
            int found = 0;
            for (int place = 0; place < count; place++) {
                found += asBit(letters[place].isOutWith(consumer));
            }
            return found;
        }

        /** What a consumer has out is ready again: how many. */
        int takeBack(int consumer) {
            int taken = 0;
            for (int place = 0; place < count; place++) {
                if (letters[place].isOutWith(consumer)) {
                    letters[place].makeReady();
                    taken++;
                }
            }
            return taken;
        }

        /** Whether a letter may be given, were those whose bits are in gone no more there. */
        private boolean mayGoBut(int place, int gone) {
            Letter asked = letterAt(place);
            if (asked == null || asked.state != READY || isGone(place, gone)) {
                return false;
            }
            for (int i = 0; i < place; i++) {
                if (letters[i].key == asked.key && !isGone(i, gone)) {
                    return false;
                }
            }
            return true;
        }

        private static boolean isGone(int place, int gone) {
            return (gone >> place & 1) == 1;
        }

        /** The place of the next letter, were those whose bits are in gone no more there; NONE. */
        int nextBut(int gone) {
            int best = NONE;
            int bestPriority = NONE;
            for (int place = 0; place < count; place++) {
                if (mayGoBut(place, gone) && letters[place].priority > bestPriority) {
                    best = place;
                    bestPriority = letters[place].priority;
                }
            }
            return best;
        }

        int countMayGo() {
            int found = 0;
            for (int place = 0; place < count; place++) {
                found += asBit(mayGoBut(place, 0));
            }
            return found;
        }

        int blockedKeys() {
            int ready = 0;
            int open = 0;
            for (int place = 0; place < count; place++) {
                if (letters[place].state == READY) {
                    ready |= 1 << letters[place].key;
                }
                if (mayGoBut(place, 0)) {
                    open |= 1 << letters[place].key;
                }
            }
            return ready & ~open;
        }

        int drainedAt(int i) {
            if (!isBelow(i, count)) {
                return NONE;
            }
            int gone = 0;
            for (int k = 0; k < i; k++) {
                gone = withNext(gone);
            }
            Letter found = letterAt(nextBut(gone));
            return found == null ? NONE : found.message;
        }

        /** The bits of gone, and of the one that would go behind them. */
        private int withNext(int gone) {
            int place = nextBut(gone);
            return place == NONE ? gone : gone | 1 << place;
        }

        /** Of n told messages the first that wouldn't go then; n, if more would go; NONE. */
        int firstWrong(long[] told, int n) {
            int gone = 0;
            for (int k = 0; k < n && k < told.length; k++) {
                Letter due = letterAt(nextBut(gone));
                if (due == null || told[k] != due.message) {
                    return k;
                }
                gone = withNext(gone);
            }
            return nextBut(gone) == NONE ? NONE : n;
        }

        // Left to time alone, letters don't touch each other: so what a letter
        // comes to, and when, is told from itself, and nothing is tried out.

        /** The time from which it is ready, if nothing but time passes; NEVER. */
        private int readyTime(Letter asked, int now) {
            if (asked.state == READY) {
                return now;
            }
            if (asked.state == RESTING) {
                return asked.till;
            }
            int failures = asked.failed + 1;
            return failures >= tries ? NEVER : asked.till + waitAfter(failures);
        }

        /** The time at which it dies, if nothing but time passes; NEVER. */
        int goneTime(Letter asked, int now) {
            int ready = readyTime(asked, now);
            if (ready == NEVER) {
                return asked.till;
            }
            if (age == 0) {
                return NEVER;
            }
            // one that is overdue already is looked at when time passes next
            return Math.max(Math.max(ready, asked.published + age), now + 1);
        }

        /** The time from which the queue has a next letter, if nothing but time passes; NEVER. */
        int nextTime(int now) {
            int first = NEVER;
            for (int place = 0; place < count; place++) {
                int open = openTime(place, now);
                if (open < goneTime(letters[place], now)) {
                    first = Math.min(first, open);
                }
            }
            return first;
        }

        /** The time from which a letter is ready and those ahead of the same key are gone; NEVER. */
        private int openTime(int place, int now) {
            Letter asked = letterAt(place);
            if (asked == null) {
                return NEVER;
            }
            int open = readyTime(asked, now);
            for (int i = 0; i < place; i++) {
                if (letters[i].key == asked.key) {
                    open = Math.max(open, goneTime(letters[i], now));
                }
            }
            return open;
        }

        static int waitAfter(int failures) {
            int place = Math.max(0, Math.min(failures, WAITS.length) - 1);
            return WAITS[place];
        }
    }

    /** Who gets letters of a queue. */
    private static final class Consumer {
        final int number;
        int queue;
        int credits;
        int got;
        boolean hasLeft;

        Consumer(int number) {
            this.number = number;
        }

        void begin(int newQueue) {
            queue = newQueue;
            credits = 0;
            got = 0;
            hasLeft = false;
        }

        void takeFrom(Consumer other) {
            queue = other.queue;
            credits = other.credits;
            got = other.got;
            hasLeft = other.hasLeft;
        }

        boolean isAt(int asked) {
            return !hasLeft && queue == asked;
        }
    }

    /** One of the dead. */
    private static final class Dead {
        int message;
        int queue;
        int time;
        Cause cause;

        void begin(int newMessage, int newQueue, int newTime, Cause newCause) {
            message = newMessage;
            queue = newQueue;
            time = newTime;
            cause = newCause;
        }

        void takeFrom(Dead other) {
            begin(other.message, other.queue, other.time, other.cause);
        }

        int countCauses() {
            return cause == null ? 0 : cause.causesBehind + 1;
        }
    }

    /** All that an image keeps. */
    private static final class World {
        /**
         * The image's, too: an image needs but the count, as no number below it is ever written
         * again (back() goes to that count, never below).
         */
        final Messages messages;
        int messageCount;
        final Queue[] queues;
        int queueCount;
        final Consumer[] consumers;
        int consumerCount;
        final Dead[] deadOnes;
        int deadCount;
        /** No parts, as long as there is none. */
        final Pattern topic;
        int time;
        int seed;

        World(Messages messages) {
            this.messages = messages;
            topic = new Pattern();
            seed = 1;
            queues = new Queue[MOST_QUEUES];
            for (int q = 0; q < MOST_QUEUES; q++) {
                queues[q] = new Queue(q);
            }
            consumers = new Consumer[MOST_CONSUMERS];
            for (int c = 0; c < MOST_CONSUMERS; c++) {
                consumers[c] = new Consumer(c);
            }
            deadOnes = new Dead[MOST_DEAD];
            for (int i = 0; i < MOST_DEAD; i++) {
                deadOnes[i] = new Dead();
            }
        }

        void takeFrom(World other) {
            messageCount = other.messageCount;
            queueCount = other.queueCount;
            consumerCount = other.consumerCount;
            deadCount = other.deadCount;
            time = other.time;
            seed = other.seed;
            topic.takeFrom(other.topic);
            for (int q = 0; q < queueCount && q < MOST_QUEUES; q++) {
                queues[q].takeFrom(other.queues[q]);
            }
            for (int c = 0; c < consumerCount && c < MOST_CONSUMERS; c++) {
                consumers[c].takeFrom(other.consumers[c]);
            }
            for (int i = 0; i < deadCount && i < MOST_DEAD; i++) {
                deadOnes[i].takeFrom(other.deadOnes[i]);
            }
        }

        // each of these is null, if there is none such

        Queue queueAt(int q) {
            return q >= 0 && q < queueCount && q < MOST_QUEUES ? queues[q] : null;
        }

        Consumer consumerAt(int c) {
            return c >= 0 && c < consumerCount && c < MOST_CONSUMERS ? consumers[c] : null;
        }

        Consumer presentConsumer(int c) {
            Consumer found = consumerAt(c);
            return found == null || found.hasLeft ? null : found;
        }

        /** The queue of a consumer, whether that left or not. */
        Queue homeOf(int c) {
            Consumer found = consumerAt(c);
            return found == null ? null : queueAt(found.queue);
        }

        Dead deadAt(int i) {
            return i >= 0 && i < deadCount && i < MOST_DEAD ? deadOnes[i] : null;
        }

        Queue newQueue() {
            if (queueCount >= MOST_QUEUES) {
                return null;
            }
            queueCount++;
            return queues[queueCount - 1];
        }

        int newConsumer(int q) {
            if (consumerCount >= MOST_CONSUMERS) {
                return NONE;
            }
            consumers[consumerCount].begin(q);
            consumerCount++;
            return consumerCount - 1;
        }

        // ---- letters come and go

        /** A message of the topic is published: how many queues it fits. */
        int send(int key, int priority, int v) {
            int message = messageCount;
            messages.put(message, key, priority, v, time, topic.parts);
            messageCount++;
            int fitting = 0;
            for (int q = 0; q < queueCount; q++) {
                Queue queue = queues[q];
                if (!queue.pattern.takesAllOf(topic)) {
                    continue;
                }
                fitting++;
                if (queue.isFull()) {
                    addDead(message, queue, new Cause(BY_FULL, time, 0, queue.limit, null));
                } else {
                    queue.insert(messages, message);
                }
            }
            return fitting;
        }

        int fittingQueues() {
            int bits = 0;
            for (int q = 0; q < queueCount; q++) {
                if (queues[q].pattern.takesAllOf(topic)) {
                    bits |= 1 << q;
                }
            }
            return bits;
        }

        /** The next letter is given, if somebody gets it: its message; NONE. */
        int giveNext(Queue queue) {
            Letter letter = queue.letterAt(queue.nextBut(0));
            Consumer receiver = consumerAt(receiverIn(queue));
            if (letter == null || receiver == null) {
                return NONE;
            }
            letter.goOut(receiver.number, time + queue.lease);
            receiver.credits--;
            receiver.got++;
            queue.latest = receiver.number;
            queue.given++;
            return letter.message;
        }

        /** Who gets the next letter of a queue; NONE. */
        int receiverIn(Queue queue) {
            if (queue.isExclusive) {
                Consumer first = consumerAt(firstPresent(queue.number));
                return first != null && first.credits > 0 ? first.number : NONE;
            }
            for (int step = 1; step <= MOST_CONSUMERS; step++) {
                Consumer asked = consumerAt((queue.latest + step) % MOST_CONSUMERS);
                if (asked != null && asked.isAt(queue.number) && asked.credits > 0) {
                    return asked.number;
                }
            }
            return NONE;
        }

        private int firstPresent(int q) {
            for (int c = 0; c < consumerCount; c++) {
                if (consumers[c].isAt(q)) {
                    return c;
                }
            }
            return NONE;
        }

        void acknowledge(Queue queue, int place) {
            Letter letter = queue.letterAt(place);
            if (letter != null) {
                returnCredit(letter.consumer);
                queue.removeAt(place);
                queue.acknowledged++;
            }
        }

        private void returnCredit(int c) {
            Consumer consumer = consumerAt(c);
            if (consumer != null) {
                consumer.credits = Math.min(consumer.credits + 1, MOST_CREDITS);
            }
        }

        /** A letter that is out fails, its consumer has a credit more: how often it failed so far. */
        int fail(Queue queue, int place, int kind) {
            Letter letter = queue.letterAt(place);
            if (letter == null) {
                return 0;
            }
            returnCredit(letter.consumer);
            letter.failed++;
            letter.cause = new Cause(kind, time, letter.failed, letter.consumer, letter.cause);
            // told apart from the letter: one that dies is spare from then on
            int failures = letter.failed;
            if (failures >= queue.tries) {
                die(queue, place, letter.cause);
            } else {
                letter.rest(time + Queue.waitAfter(failures));
            }
            return failures;
        }

        private void die(Queue queue, int place, Cause cause) {
            Letter letter = queue.letterAt(place);
            if (letter != null) {
                addDead(letter.message, queue, cause);
                queue.removeAt(place);
            }
        }

        private void addDead(int message, Queue queue, Cause cause) {
            if (deadCount >= MOST_DEAD) {
                removeDead(0);
            }
            deadOnes[deadCount].begin(message, queue.number, time, cause);
            deadCount++;
            queue.died++;
        }

        private void removeDead(int place) {
            if (place < 0 || place >= deadCount) {
                return;
            }
            Dead gone = deadOnes[place];
            for (int i = place; i < deadCount - 1; i++) {
                deadOnes[i] = deadOnes[i + 1];
            }
            deadCount--;
            deadOnes[deadCount] = gone;
        }

        void reviveDead(int i, Queue home) {
            Dead revived = deadAt(i);
            if (revived != null) {
                home.insert(messages, revived.message);
                removeDead(i);
            }
        }

        /** The dead of a queue (NONE: all) are no more: how many there were. */
        int forgetDead(int q) {
            int before = deadCount;
            for (int i = before - 1; i >= 0; i--) {
                if (q == NONE || deadOnes[i].queue == q) {
                    removeDead(i);
                }
            }
            return before - deadCount;
        }

        /** A consumer leaves: how many letters it had out. */
        int letGo(Consumer consumer) {
            consumer.hasLeft = true;
            consumer.credits = 0;
            Queue home = queueAt(consumer.queue);
            return home == null ? 0 : home.takeBack(consumer.number);
        }

        // ---- time and days

        /** Time passes by 1: how many died. */
        int tick() {
            time++;
            int before = countLetters();
            for (int q = 0; q < queueCount; q++) {
                Queue queue = queues[q];
                int place = 0;
                for (int left = queue.count; left > 0; left--) {
                    int size = queue.count;
                    letTimeReach(queue, place);
                    // behind one that died the next letter stands in its place
                    place += asBit(queue.count == size);
                }
            }
            return before - countLetters();
        }

        private void letTimeReach(Queue queue, int place) {
            Letter letter = queue.letterAt(place);
            if (letter == null) {
                return;
            }
            boolean isDue = letter.state != READY && letter.till <= time;
            if (isDue && letter.state == OUT) {
                fail(queue, place, BY_LATE);
                return;
            }
            if (isDue) {
                letter.makeReady();
            }
            int old = time - letter.published;
            if (letter.state == READY && queue.age > 0 && old >= queue.age) {
                die(queue, place, new Cause(BY_OLD, time, letter.failed, old, letter.cause));
            }
        }

        /** What a day does ahead of its end: whether it did something. */
        boolean actByDraws() {
            switch (draw(DEEDS)) {
                case 0:
                case 1:
                    return sendByDraws();
                case 2:
                case 3:
                    return giveByDraw();
                case 4:
                    return answerByDraw(true);
                default:
                    return answerByDraw(false);
            }
        }

        private boolean sendByDraws() {
            if (topic.parts == 0 || messageCount >= MOST_MESSAGES) {
                return false;
            }
            int key = draw(KEYS);
            int priority = draw(PRIORITIES);
            send(key, priority, draw(DRAWN_VALUES));
            return true;
        }

        private boolean giveByDraw() {
            Queue drawn = queueCount == 0 ? null : queueAt(draw(queueCount));
            return drawn != null && giveNext(drawn) != NONE;
        }

        private boolean answerByDraw(boolean isGood) {
            int drawn = consumerCount == 0 ? NONE : draw(consumerCount);
            Queue home = homeOf(drawn);
            int place = home == null ? NONE : home.nthOut(drawn, 0);
            if (place == NONE) {
                return false;
            }
            if (isGood) {
                acknowledge(home, place);
            } else {
                fail(home, place, BY_REJECTED);
            }
            return true;
        }

        private int draw(int bound) {
            seed = seed * 1103515245 + 12345;
            return bound > 0 ? (seed >>> 16) % bound : 0;
        }

        // ---- what is told

        int countPresent(int q) {
            int found = 0;
            for (int c = 0; c < consumerCount; c++) {
                found += asBit(consumers[c].isAt(q));
            }
            return found;
        }

        /** The credits of all consumers of a queue (NONE: of all queues); who left has none. */
        int creditsAt(int q) {
            int sum = 0;
            for (int c = 0; c < consumerCount; c++) {
                if (q == NONE || consumers[c].queue == q) {
                    sum += consumers[c].credits;
                }
            }
            return sum;
        }

        int countQueuesWith(int message) {
            int found = 0;
            for (int q = 0; q < queueCount; q++) {
                found += asBit(queues[q].placeOf(message) != NONE);
            }
            return found;
        }

        int countLetters() {
            int sum = 0;
            for (int q = 0; q < queueCount; q++) {
                sum += queues[q].count;
            }
            return sum;
        }

        /** How many letters die till a time, if nothing but time passes. */
        int countGoneBy(int till) {
            int gone = 0;
            for (int q = 0; q < queueCount; q++) {
                for (int i = 0; i < queues[q].count; i++) {
                    gone += asBit(queues[q].goneTime(queues[q].letters[i], time) <= till);
                }
            }
            return gone;
        }
    }
}
