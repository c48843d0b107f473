/**
 * A historian of an outcrop: events that each lasted from some time to a later one, observations of how
 * two of them lie to one another, and what these leave. README.md tells how to use it.
 */
public final class OutcropAges {
    public static final int BAD = -1, STATE = -2, FULL = -3, NONE = -9;

    private static final int RELATIONS = 13;
    private static final int ALL = 8191;
    private static final int SAME = 64;
    /** Relations by which x begins no later than y. */
    private static final int BEGINS_NO_LATER = 975;

    private static final int LEAST_EVENTS = 2;
    private static final int EVENTS_AT_FIRST = 3;
    private static final int MOST_EVENTS = 5;
    private static final int MOST_PAIRS = 10;
    private static final int ALL_PAIRS = 1023;
    private static final int MOST_OBSERVATIONS = 8;
    private static final int MOST_LETTERS = 160;
    private static final int LAST_LETTER = 255;
    private static final int MOST_UNDONE = 8;
    private static final int MOST_SEEN = 6;
    private static final int MOST_HISTORIES = 300;
    private static final int IMAGES = 2;

    /** The two events of each pair, in the order by which histories are told. */
    private static final int[] LOWER = {0, 0, 1, 0, 1, 2, 0, 1, 2, 3};
    private static final int[] HIGHER = {1, 2, 2, 3, 3, 3, 4, 4, 4, 4};

    private final int[] text = new int[MOST_LETTERS];
    private int letters;
    private final Reader reader = new Reader(text);
    private final Book book = new Book();
    private final Past past = new Past();
    private final Findings findings = new Findings(book);
    private final Seen seen = new Seen();
    private final Book[] images = {new Book(), new Book()};
    private final boolean[] kept = new boolean[IMAGES];

    public OutcropAges() {
    }

    // ---- what is told

    public int type(int letter) {
        if (letter < 0 || letter > LAST_LETTER) {
            return BAD;
        }
        if (letters >= MOST_LETTERS) {
            return FULL;
        }
        text[letters] = letter;
        letters++;
        return letters;
    }

    public int clear() {
        int had = letters;
        letters = 0;
        return had;
    }

    public int tells() {
        int answer = reader.readText(letters);
        if (answer < 0) {
            return answer;
        }
        book.copyFrom(reader.book);
        letters = 0;
        past.dropAll();
        seen.size = 0;
        for (int image = 0; image < IMAGES; image++) {
            kept[image] = false;
        }
        findings.forgetAll();
        return answer;
    }

    public int observed(int k, int what) {
        if (!book.isObservation(k)) {
            return BAD;
        }
        switch (what) {
            case 0:
                return book.xs[k];
            case 1:
                return book.ys[k];
            case 2:
                return book.sets[k];
            default:
                return BAD;
        }
    }

    // ---- what is done

    public int adds(int x, int set, int y) {
        if (!book.areTwo(x, y) || !isToldSet(set)) {
            return BAD;
        }
        if (book.size >= MOST_OBSERVATIONS) {
            return FULL;
        }
        past.remember(book);
        book.append(x, set, y);
        findings.forgetAll();
        return book.size;
    }

    public int takes(int k) {
        if (!book.isObservation(k)) {
            return BAD;
        }
        past.remember(book);
        book.remove(k);
        findings.forgetAll();
        return book.size;
    }

    public int turns(int k, int set) {
        if (!book.isObservation(k) || !isToldSet(set)) {
            return BAD;
        }
        int had = book.sets[k];
        if (had == set) {
            return STATE;
        }
        past.remember(book);
        book.sets[k] = set;
        findings.forgetAll();
        return had;
    }

    public int undo() {
        if (past.size == 0) {
            return STATE;
        }
        past.recall(book);
        findings.forgetAll();
        return past.size;
    }

    // ---- relations

    public int turned(int r) {
        return isRelation(r) ? RELATIONS - 1 - r : BAD;
    }

    public int composed(int first, int second) {
        if (!isSet(first) || !isSet(second)) {
            return BAD;
        }
        return findings.algebra.compose(first, second);
    }

    public int left(int x, int y, int what) {
        if (!book.isEvent(x) || !book.isEvent(y)) {
            return BAD;
        }
        switch (what) {
            case 0:
                return findings.toldNet().at(x, y);
            case 1:
                return findings.closedNet().at(x, y);
            case 2:
                return findings.reallyNet().at(x, y);
            default:
                return BAD;
        }
    }

    // ---- histories

    public int many(int most) {
        if (most < 1 || most > MOST_HISTORIES) {
            return BAD;
        }
        return findings.findHistories(most);
    }

    public int history(int k, int x, int y) {
        if (k < 0 || k >= MOST_HISTORIES || !book.areTwo(x, y)) {
            return BAD;
        }
        return findings.findHistories(k + 1) > k ? findings.line.relation(k, x, y) : NONE;
    }

    public int point(int x, int end) {
        if (!book.isEvent(x) || end < 0 || end > 1) {
            return BAD;
        }
        return findings.findHistories(1) > 0 ? findings.line.pointOf(x, end) : NONE;
    }

    // ---- what is wrong, what is open

    public int wrong(int what) {
        switch (what) {
            case 0:
                return findings.quarrel();
            case 1:
                return findings.blame();
            default:
                return BAD;
        }
    }

    public int eldest() {
        return findings.eldestEvents();
    }

    public int next() {
        Net really = findings.reallyNet();
        int best = NONE;
        int most = 1;
        for (int pair = 0; pair < pairsOf(book.events); pair++) {
            int open = Integer.bitCount(really.at(LOWER[pair], HIGHER[pair]));
            if (open > most) {
                most = open;
                best = 10 * LOWER[pair] + HIGHER[pair];
            }
        }
        return best;
    }

    // ---- which observation

    public int sees(int x, int r, int y) {
        if (!book.areTwo(x, y) || !isRelation(r)) {
            return BAD;
        }
        if (seen.size >= MOST_SEEN) {
            return FULL;
        }
        seen.append(x, r, y);
        return seen.size;
    }

    public int forget() {
        int had = seen.size;
        seen.size = 0;
        return had;
    }

    public int unseen() {
        return findings.suspects(seen);
    }

    // ---- images

    public int keep(int image) {
        if (image < 0 || image >= IMAGES) {
            return BAD;
        }
        images[image].copyFrom(book);
        kept[image] = true;
        return book.size;
    }

    public int back(int image) {
        if (image < 0 || image >= IMAGES) {
            return BAD;
        }
        if (!kept[image]) {
            return STATE;
        }
        book.copyFrom(images[image]);
        past.dropAll();
        findings.forgetAll();
        return book.size;
    }

    public int count(int what) {
        switch (what) {
            case 0:
                return book.events;
            case 1:
                return book.size;
            case 2:
                return seen.size;
            case 3:
                return letters;
            case 4:
                return past.size;
            case 5:
                return findings.findHistories(1) > 0 ? findings.line.allPoints() : NONE;
            default:
                return BAD;
        }
    }

    private static boolean isRelation(int r) {
        return r >= 0 && r < RELATIONS;
    }

    private static boolean isSet(int set) {
        return set >= 0 && set <= ALL;
    }

    private static boolean isToldSet(int set) {
        return set >= 1 && set <= ALL;
    }

    /** The place of a lower and a higher event in LOWER and HIGHER. */
    private static int pairOf(int lower, int higher) {
        return higher * (higher - 1) / 2 + lower;
    }

    private static int pairsOf(int events) {
        return events * (events - 1) / 2;
    }

    /** How many events there are, and the observations, in their order. */
    private static final class Book {
        private final int[] xs = new int[MOST_OBSERVATIONS];
        private final int[] sets = new int[MOST_OBSERVATIONS];
        private final int[] ys = new int[MOST_OBSERVATIONS];
        private int size;
        private int events = EVENTS_AT_FIRST;

        boolean isEvent(int x) {
            return x >= 0 && x < events;
        }

        boolean areTwo(int x, int y) {
            return isEvent(x) && isEvent(y) && x != y;
        }

        boolean isObservation(int k) {
            return k >= 0 && k < size;
        }

        void append(int x, int set, int y) {
            if (size < MOST_OBSERVATIONS) {
                xs[size] = x;
                sets[size] = set;
                ys[size] = y;
                size++;
            }
        }

        void remove(int k) {
            if (isObservation(k)) {
                size--;
                for (int i = k; i < size; i++) {
                    xs[i] = xs[i + 1];
                    sets[i] = sets[i + 1];
                    ys[i] = ys[i + 1];
                }
            }
        }

        void copyFrom(Book other) {
            events = other.events;
            size = other.size;
            for (int i = 0; i < size; i++) {
                xs[i] = other.xs[i];
                sets[i] = other.sets[i];
                ys[i] = other.ys[i];
            }
        }
    }

    /** The book as it was ahead of the latest changes, the oldest first. */
    private static final class Past {
        private final Book[] books = new Book[MOST_UNDONE];
        private int size;

        Past() {
            for (int i = 0; i < MOST_UNDONE; i++) {
                books[i] = new Book();
            }
        }

        void remember(Book book) {
            if (size == MOST_UNDONE) {
                loseOldest();
            }
            books[size].copyFrom(book);
            size++;
        }

        /** The oldest book's room goes to the end, so that it is used again. */
        private void loseOldest() {
            Book oldest = books[0];
            for (int i = 1; i < MOST_UNDONE; i++) {
                books[i - 1] = books[i];
            }
            books[MOST_UNDONE - 1] = oldest;
            size--;
        }

        void recall(Book book) {
            if (size > 0) {
                size--;
                book.copyFrom(books[size]);
            }
        }

        void dropAll() {
            size = 0;
        }
    }

    /** What was seen: relations that the history without the unknown observation would have. */
    private static final class Seen {
        private final int[] xs = new int[MOST_SEEN];
        private final int[] relations = new int[MOST_SEEN];
        private final int[] ys = new int[MOST_SEEN];
        private int size;

        void append(int x, int r, int y) {
            if (size < MOST_SEEN) {
                xs[size] = x;
                relations[size] = r;
                ys[size] = y;
                size++;
            }
        }

        /** Whether all of it is so in the first history that the line has found. */
        boolean isSoIn(Line line) {
            for (int i = 0; i < size; i++) {
                if (line.relation(0, xs[i], ys[i]) != relations[i]) {
                    return false;
                }
            }
            return true;
        }
    }

    /** Reads a text token by token into a book of its own, up to the first token that can't stand there. */
    private static final class Reader {
        private static final int ENDED = 0, ROW = 1, NUMBER = 2, SEMICOLON = 3, OTHER = 4;
        private static final int AT_FAULT = -10;
        /** For all numbers that can stand nowhere. */
        private static final int TOO_HIGH = 10000;

        private final Book book = new Book();
        private final int[] text;
        private int length;
        /** The token: where it starts, where the next can start, its kind, and a number's value. */
        private int place;
        private int behind;
        private int kind;
        private int value;

        Reader(int[] text) {
            this.text = text;
        }

        /** How many items the first letters of the text have, or AT_FAULT less the fault. */
        int readText(int letters) {
            length = Math.min(letters, text.length);
            behind = 0;
            book.size = 0;
            book.events = EVENTS_AT_FIRST;
            // An item has four tokens or three, so there are fewer of them than letters.
            for (int items = 0; items <= MOST_LETTERS; items++) {
                readToken();
                if (kind == ENDED) {
                    return items;
                }
                if (!readItem(items == 0)) {
                    break;
                }
            }
            return AT_FAULT - place;
        }

        private boolean readItem(boolean first) {
            boolean read = isRow("events") ? first && readEvents() : readObservation();
            if (!read) {
                return false;
            }
            readToken();
            return kind == SEMICOLON;
        }

        private boolean readEvents() {
            readToken();
            if (kind != NUMBER || value < LEAST_EVENTS || value > MOST_EVENTS) {
                return false;
            }
            book.events = value;
            return true;
        }

        private boolean readObservation() {
            int x = eventOfToken();
            if (x == NONE || book.size >= MOST_OBSERVATIONS) {
                return false;
            }
            readToken();
            int set = setOfToken();
            if (!isToldSet(set)) {
                return false;
            }
            readToken();
            int y = eventOfToken();
            if (y == NONE || y == x) {
                return false;
            }
            book.append(x, set, y);
            return true;
        }

        /** The event whose letter the token is, or NONE. */
        private int eventOfToken() {
            if (kind != ROW || behind - place != 1 || place >= length) {
                return NONE;
            }
            int event = text[place] - 'a';
            return book.isEvent(event) ? event : NONE;
        }

        /** The set that a word or a number tells, or 0 (no set that may be told). */
        private int setOfToken() {
            if (kind == NUMBER) {
                return value;
            }
            if (isRow("before")) {
                return 3;
            }
            if (isRow("covers")) {
                return 6144;
            }
            if (isRow("cuts")) {
                return 7216;
            }
            if (isRow("outlasts")) {
                return 7936;
            }
            if (isRow("within")) {
                return 120;
            }
            if (isRow("with")) {
                return 2044;
            }
            if (isRow("touches")) {
                return 2050;
            }
            return isRow("same") ? SAME : 0;
        }

        private boolean isRow(String word) {
            if (kind != ROW || behind - place != word.length() || behind > length) {
                return false;
            }
            for (int i = 0; i < word.length(); i++) {
                if (text[place + i] != word.charAt(i)) {
                    return false;
                }
            }
            return true;
        }

        private void readToken() {
            place = behind;
            while (place < length && text[place] == ' ') {
                place++;
            }
            behind = place;
            kind = kindAt(place);
            if (kind == ROW || kind == NUMBER) {
                while (behind < length && kindAt(behind) == kind) {
                    behind++;
                }
            } else if (kind != ENDED) {
                behind++;
            }
            if (kind == NUMBER) {
                readValue();
            }
        }

        private int kindAt(int at) {
            if (at < 0 || at >= length) {
                return ENDED;
            }
            int letter = text[at];
            if (letter >= 'a' && letter <= 'z') {
                return ROW;
            }
            if (letter >= '0' && letter <= '9') {
                return NUMBER;
            }
            return letter == ';' ? SEMICOLON : OTHER;
        }

        private void readValue() {
            value = 0;
            for (int at = place; at < behind && at < length; at++) {
                boolean zeroAhead = value == 0 && at > place;
                value = zeroAhead ? TOO_HIGH : Math.min(value * 10 + text[at] - '0', TOO_HIGH);
            }
        }
    }

    /** Turns sets round and composes them, by tables of what each relation does to the parts of a set. */
    private static final class Algebra {
        /** What r (x to y), then s (y to z) can be of x to z: at r * RELATIONS + s. */
        private static final int[] TWO = {
            1, 1, 1, 1, 31, 31, 1, 1, 1, 1, 31, 31, 8191,
            1, 1, 1, 2, 28, 28, 2, 1, 1, 2, 28, 224, 7936,
            1, 1, 7, 4, 28, 28, 4, 7, 391, 388, 2044, 1792, 7936,
            1, 1, 7, 8, 16, 16, 8, 7, 391, 584, 1072, 2048, 4096,
            1, 1, 31, 16, 16, 16, 16, 31, 8191, 7216, 7216, 4096, 4096,
            1, 2, 28, 16, 16, 32, 32, 224, 7936, 7168, 7168, 4096, 4096,
            1, 2, 4, 8, 16, 32, 64, 128, 256, 512, 1024, 2048, 4096,
            1, 2, 4, 4, 28, 224, 128, 128, 256, 256, 1792, 1792, 7936,
            391, 388, 388, 388, 2044, 1792, 256, 256, 256, 256, 1792, 1792, 7936,
            391, 388, 388, 584, 1072, 1024, 512, 256, 256, 512, 1024, 2048, 4096,
            391, 388, 2044, 1072, 1072, 1024, 1024, 1792, 7936, 7168, 7168, 4096, 4096,
            391, 584, 1072, 1072, 1072, 2048, 2048, 2048, 4096, 4096, 4096, 4096, 4096,
            8191, 7216, 7216, 7216, 7216, 4096, 4096, 4096, 4096, 4096, 4096, 4096, 4096
        };
        private static final int LOW_BITS = 7, LOW_SETS = 128, HIGH_SETS = 64;
        /** The row behind those of the relations turns a set round. */
        private static final int TURNING = RELATIONS;

        private final int[] low = new int[(RELATIONS + 1) * LOW_SETS];
        private final int[] high = new int[(RELATIONS + 1) * HIGH_SETS];

        Algebra() {
            for (int row = 0; row <= TURNING; row++) {
                for (int s = 0; s < RELATIONS; s++) {
                    int one = row == TURNING ? 1 << (RELATIONS - 1 - s) : TWO[row * RELATIONS + s];
                    if (s < LOW_BITS) {
                        addRelation(low, row * LOW_SETS, s, one);
                    } else {
                        addRelation(high, row * HIGH_SETS, s - LOW_BITS, one);
                    }
                }
            }
        }

        /** Fills in the sets whose highest relation is at this bit, from those without it. */
        private static void addRelation(int[] table, int start, int bit, int one) {
            int with = 1 << bit;
            for (int rest = 0; rest < with; rest++) {
                table[start + with + rest] = table[start + rest] | one;
            }
        }

        int turn(int set) {
            return low[TURNING * LOW_SETS + (set & LOW_SETS - 1)]
                | high[TURNING * HIGH_SETS + (set >> LOW_BITS & HIGH_SETS - 1)];
        }

        /** A relation, then one of a set. */
        int composeOne(int r, int set) {
            return low[r * LOW_SETS + (set & LOW_SETS - 1)]
                | high[r * HIGH_SETS + (set >> LOW_BITS & HIGH_SETS - 1)];
        }

        /** One of a set, then one of another. */
        int compose(int first, int second) {
            int lowPart = second & LOW_SETS - 1;
            int highPart = second >> LOW_BITS & HIGH_SETS - 1;
            int result = 0;
            for (int r = 0; r < RELATIONS && result != ALL; r++) {
                if ((first >> r & 1) != 0) {
                    result |= low[r * LOW_SETS + lowPart] | high[r * HIGH_SETS + highPart];
                }
            }
            return result;
        }
    }

    /** A set of relations of every event to every event. */
    private static final class Net {
        /** A round over all pairs, in which no relation goes, is the last: 130 can go, so this is above all of them. */
        private static final int MOST_TURNS = 2000;

        private final Algebra algebra;
        private final int[] sets = new int[MOST_EVENTS * MOST_EVENTS];
        private int events;
        /** Nothing is left of some two. */
        private boolean barren;

        Net(Algebra algebra) {
            this.algebra = algebra;
        }

        int at(int x, int y) {
            return sets[x * MOST_EVENTS + y];
        }

        void put(int x, int y, int set) {
            sets[x * MOST_EVENTS + y] = set;
            sets[y * MOST_EVENTS + x] = algebra.turn(set);
            if (set == 0) {
                barren = true;
            }
        }

        /** What the observations tell, but for those that are gone (bits). */
        void tell(Book book, int gone) {
            events = book.events;
            barren = false;
            for (int x = 0; x < events; x++) {
                for (int y = 0; y < events; y++) {
                    sets[x * MOST_EVENTS + y] = x == y ? SAME : ALL;
                }
            }
            for (int k = 0; k < book.size; k++) {
                if ((gone >> k & 1) == 0) {
                    hold(book.xs[k], book.sets[k], book.ys[k]);
                }
            }
        }

        void hold(int x, int set, int y) {
            put(x, y, at(x, y) & set);
        }

        void copyFrom(Net other) {
            events = other.events;
            barren = other.barren;
            System.arraycopy(other.sets, 0, sets, 0, sets.length);
        }

        /** Closes a net of which only these pairs (bits) may rule out anything of others. */
        void close(int pairs) {
            int waiting = pairs;
            for (int turn = 0; turn < MOST_TURNS && waiting != 0 && !barren; turn++) {
                int pair = turn % MOST_PAIRS;
                if ((waiting >> pair & 1) != 0) {
                    waiting &= ~(1 << pair);
                    waiting |= spread(LOWER[pair], HIGHER[pair]);
                }
            }
            if (barren) {
                empty();
            }
        }

        /** Nothing is left anywhere. */
        void empty() {
            barren = true;
            for (int i = 0; i < sets.length; i++) {
                sets[i] = 0;
            }
        }

        /** Composes what is left of x to y with all that goes on from either: the pairs (bits) that changed. */
        private int spread(int x, int y) {
            if (x >= events || y >= events || at(x, y) == ALL) {
                return 0;
            }
            int changed = 0;
            for (int z = 0; z < events && !barren; z++) {
                if (z != x && z != y) {
                    changed |= narrow(x, y, z);
                    changed |= barren ? 0 : narrow(y, x, z);
                }
            }
            return changed;
        }

        /** What is left of x to z by y: the pair's bit, if less is left now. */
        private int narrow(int x, int y, int z) {
            if (at(y, z) == ALL) {
                return 0;
            }
            int had = at(x, z);
            int has = had & algebra.compose(at(x, y), at(y, z));
            if (has == had) {
                return 0;
            }
            sets[x * MOST_EVENTS + z] = has;
            sets[z * MOST_EVENTS + x] = algebra.turn(has);
            barren = has == 0;
            return 1 << pairOf(Math.min(x, z), Math.max(x, z));
        }
    }

    /**
     * A line of time, on which the events of a net are put one behind the other, so that the histories are
     * found in their order.
     *
     * A begin or an end is a number between 0 and LAST. Each event cuts a gap between two of them into
     * three at most, so that a gap of three or more is there for each of the five.
     */
    private static final class Line {
        private static final int LAST = 243;
        private static final int BITS = 4, ONE = 15;
        /**
         * The zones in which y begins and ends, if x has this relation to it: 0 ahead of x, 1 as x begins,
         * 2 within x, 3 as x ends, 4 behind x.
         */
        private static final int[] BEGIN_ZONE = {4, 3, 2, 1, 0, 0, 1, 2, 2, 1, 0, 0, 0};
        private static final int[] END_ZONE = {4, 4, 4, 4, 4, 3, 3, 3, 2, 2, 2, 1, 0};

        private final Net net;
        /** What is left of x to z, while an event is put: at x * MOST_EVENTS + z of the event's row. */
        private final int[][] stages = new int[MOST_EVENTS][MOST_EVENTS * MOST_EVENTS];
        private final int[] begins = new int[MOST_EVENTS];
        private final int[] ends = new int[MOST_EVENTS];
        private final int[] chosen = new int[MOST_PAIRS];
        /** The histories: four bits for the relation of each pair. */
        private final long[] found;
        private int size;
        private int wanted;
        private boolean foundAll;
        /** All begins and ends of the first history. */
        private final int[] times = new int[2 * MOST_EVENTS];

        Line(Net net, int most) {
            this.net = net;
            found = new long[Math.max(1, most)];
        }

        void dropAll() {
            size = 0;
            foundAll = false;
        }

        /** Finds the first histories of the net, most at most: how many. */
        int find(int most) {
            size = 0;
            wanted = Math.min(most, found.length);
            System.arraycopy(net.sets, 0, stages[0], 0, net.sets.length);
            foundAll = !search(0, 0, 1, LAST - 1, 1, LAST - 1);
            return size;
        }

        /**
         * Puts y so that it has to x, and to all behind it, what is left, beginning between the first two
         * numbers and ending between the last two. Whether all that is wanted is found.
         *
         * No relation lets y begin where it ends, or behind that, so the two places need no look at each other.
         */
        private boolean search(int y, int x, int b1, int b2, int e1, int e2) {
            if (y >= net.events || y >= MOST_EVENTS) {
                write();
                return size >= wanted;
            }
            if (x >= y) {
                place(y, b1, b2, e1, e2);
                return leavesRoom(y) && search(y + 1, 0, 1, LAST - 1, 1, LAST - 1);
            }
            int set = stages[y][x * MOST_EVENTS + y];
            for (int r = 0; r < RELATIONS; r++) {
                if ((set >> r & 1) != 0) {
                    int c1 = Math.max(b1, zoneStart(x, BEGIN_ZONE[r]));
                    int c2 = Math.min(b2, zoneEnd(x, BEGIN_ZONE[r]));
                    int f1 = Math.max(e1, zoneStart(x, END_ZONE[r]));
                    int f2 = Math.min(e2, zoneEnd(x, END_ZONE[r]));
                    if (c1 <= c2 && f1 <= f2) {
                        chosen[pairOf(x, y)] = r;
                        if (search(y, x + 1, c1, c2, f1, f2)) {
                            return true;
                        }
                    }
                }
            }
            return false;
        }

        private int zoneStart(int x, int zone) {
            switch (zone) {
                case 0:
                    return 1;
                case 1:
                    return begins[x];
                case 2:
                    return begins[x] + 1;
                case 3:
                    return ends[x];
                default:
                    return ends[x] + 1;
            }
        }

        private int zoneEnd(int x, int zone) {
            switch (zone) {
                case 0:
                    return begins[x] - 1;
                case 1:
                    return begins[x];
                case 2:
                    return ends[x] - 1;
                case 3:
                    return ends[x];
                default:
                    return LAST - 1;
            }
        }

        /** By now both places are one time that is there, or one gap between such times. */
        private void place(int y, int b1, int b2, int e1, int e2) {
            if (b1 == e1) {
                int third = (b2 - b1 + 2) / 3;
                begins[y] = b1 - 1 + third;
                ends[y] = b2 + 1 - third;
            } else {
                begins[y] = (b1 + b2) / 2;
                ends[y] = (e1 + e2) / 2;
            }
        }

        /** Whether y, being there, leaves something of all that are there to those behind it. */
        private boolean leavesRoom(int y) {
            int following = y + 1;
            if (following >= net.events || following >= MOST_EVENTS) {
                return true;
            }
            int[] stage = stages[following];
            System.arraycopy(stages[y], 0, stage, 0, stage.length);
            for (int z = following; z < net.events; z++) {
                if (narrow(stage, y, z) == 0) {
                    return false;
                }
            }
            return true;
        }

        /** Composes what all that are there have to y with what is left to z, so that few ways end in nothing. */
        private int narrow(int[] stage, int y, int z) {
            int set = stage[y * MOST_EVENTS + z];
            for (int x = 0; x < y; x++) {
                set &= net.algebra.composeOne(RELATIONS - 1 - chosen[pairOf(x, y)], stage[x * MOST_EVENTS + z]);
            }
            stage[y * MOST_EVENTS + z] = set;
            for (int x = 0; x < y; x++) {
                stage[x * MOST_EVENTS + z] &= net.algebra.composeOne(chosen[pairOf(x, y)], set);
            }
            return set;
        }

        private void write() {
            if (size == 0) {
                for (int x = 0; x < MOST_EVENTS; x++) {
                    times[2 * x] = begins[x];
                    times[2 * x + 1] = ends[x];
                }
            }
            long all = 0;
            for (int pair = 0; pair < pairsOf(net.events); pair++) {
                all |= (long) chosen[pair] << BITS * pair;
            }
            if (size < found.length) {
                found[size] = all;
                size++;
            }
        }

        /** The relation of two in the k-th of the histories that were found. */
        int relation(int k, int x, int y) {
            if (k < 0 || k >= size) {
                return NONE;
            }
            int r = (int) (found[k] >> BITS * pairOf(Math.min(x, y), Math.max(x, y))) & ONE;
            return x < y ? r : RELATIONS - 1 - r;
        }

        int pointOf(int x, int end) {
            return pointsAhead(times[2 * x + end]);
        }

        int allPoints() {
            return pointsAhead(LAST);
        }

        private int pointsAhead(int time) {
            int points = 0;
            for (int i = 0; i < 2 * net.events; i++) {
                if (times[i] < time && isFirstAtItsTime(i)) {
                    points++;
                }
            }
            return points;
        }

        private boolean isFirstAtItsTime(int i) {
            for (int j = 0; j < i; j++) {
                if (times[j] == times[i]) {
                    return false;
                }
            }
            return true;
        }
    }

    /** What the observations of a book leave. It is found when it is asked for, and known till the book changes. */
    private static final class Findings {
        private final Book book;
        private final Algebra algebra = new Algebra();
        private final Net told = new Net(algebra);
        private final Net closed = new Net(algebra);
        private final Net really = new Net(algebra);
        private final Line line = new Line(closed, MOST_HISTORIES);
        private final Net trial = new Net(algebra);
        private final Line trialLine = new Line(trial, 1);
        private boolean closedIsKnown;
        private boolean reallyIsKnown;

        Findings(Book book) {
            this.book = book;
        }

        void forgetAll() {
            closedIsKnown = false;
            reallyIsKnown = false;
        }

        Net toldNet() {
            told.tell(book, 0);
            return told;
        }

        Net closedNet() {
            if (!closedIsKnown) {
                closed.tell(book, 0);
                closed.close(ALL_PAIRS);
                line.dropAll();
                closedIsKnown = true;
            }
            return closed;
        }

        /** How many histories there are, most at most; the line has them then. */
        int findHistories(int most) {
            closedNet();
            if (line.size < most && !line.foundAll) {
                line.find(most);
            }
            return Math.min(line.size, most);
        }

        Net reallyNet() {
            if (reallyIsKnown) {
                return really;
            }
            reallyIsKnown = true;
            really.empty();
            if (findHistories(1) == 0) {
                return really;
            }
            mark(line);
            for (int pair = 0; pair < pairsOf(book.events); pair++) {
                for (int r = 0; r < RELATIONS; r++) {
                    tryRelation(LOWER[pair], r, HIGHER[pair]);
                }
            }
            return really;
        }

        /** Looks for a history in which x has r to y, if none was found yet, and composing leaves it. */
        private void tryRelation(int x, int r, int y) {
            int one = 1 << r;
            if ((closed.at(x, y) & ~really.at(x, y) & one) != 0) {
                trial.copyFrom(closed);
                trial.put(x, y, one);
                trial.close(1 << pairOf(x, y));
                if (trialLine.find(1) > 0) {
                    mark(trialLine);
                }
            }
        }

        /** What every two have in a history that was found, they have really. */
        private void mark(Line from) {
            for (int y = 0; y < book.events; y++) {
                really.put(y, y, SAME);
                for (int x = 0; x < y; x++) {
                    really.put(x, y, really.at(x, y) | 1 << from.relation(0, x, y));
                }
            }
        }

        /** Whether there is a history without these observations (bits); the trial's line has the first then. */
        private boolean hasHistoryWithout(int gone) {
            trial.tell(book, gone);
            trial.close(ALL_PAIRS);
            return trialLine.find(1) > 0;
        }

        int quarrel() {
            if (findHistories(1) > 0) {
                return 0;
            }
            int gone = 0;
            int stays = 0;
            for (int k = 0; k < book.size; k++) {
                if (hasHistoryWithout(gone | 1 << k)) {
                    stays |= 1 << k;
                } else {
                    gone |= 1 << k;
                }
            }
            return stays;
        }

        int blame() {
            if (findHistories(1) > 0) {
                return 0;
            }
            int blamed = 0;
            for (int k = 0; k < book.size; k++) {
                if (hasHistoryWithout(1 << k)) {
                    blamed |= 1 << k;
                }
            }
            return blamed;
        }

        int eldestEvents() {
            closedNet();
            int events = 0;
            for (int x = 0; x < book.events; x++) {
                trial.copyFrom(closed);
                for (int y = 0; y < book.events; y++) {
                    if (x != y) {
                        trial.hold(x, BEGINS_NO_LATER, y);
                    }
                }
                trial.close(ALL_PAIRS);
                if (trialLine.find(1) > 0) {
                    events |= 1 << x;
                }
            }
            return events;
        }

        /** The observations (bits) each of which, being gone, leaves a history in which all that was seen is so. */
        int suspects(Seen seen) {
            int observations = 0;
            for (int k = 0; k < book.size; k++) {
                if (seen.size == 0 || hasHistoryWithout(1 << k) && seen.isSoIn(trialLine)) {
                    observations |= 1 << k;
                }
            }
            return observations;
        }
    }
}
