import java.util.ArrayList;
import java.util.Arrays;
import java.util.List;

/**
 * What the document asks, in its plainest form: all histories of so many events are listed once, and every
 * answer is found by looking through the list. It shares nothing with the class.
 */
final class Model {
    static final int BAD = -1, STATE = -2, FULL = -3, NONE = -9;
    private static final int[][] COMPOSED = new int[13][13];
    private static final long[][] HISTORIES = new long[6][];

    record Observation(int x, int set, int y) { }

    int events = 3;
    String text = "";
    List<Observation> observations = new ArrayList<>();
    List<List<Observation>> past = new ArrayList<>();
    List<int[]> seen = new ArrayList<>();
    List<List<Observation>> images = new ArrayList<>(Arrays.asList(null, null));
    private long[] mine;
    private int[][] closed;

    // ---- relations of intervals

    static int relation(int a, int b, int c, int d) {
        if (b < c) return 0;
        if (b == c) return 1;
        if (a < c && b > c && b < d) return 2;
        if (a == c && b < d) return 3;
        if (a > c && b < d) return 4;
        if (a > c && b == d) return 5;
        if (a == c && b == d) return 6;
        return 12 - relation(c, d, a, b);
    }

    static {
        for (int a = 0; a < 36; a++) {
            for (int b = 0; b < 36; b++) {
                for (int c = 0; c < 36; c++) {
                    int a1 = a / 6, a2 = a % 6, b1 = b / 6, b2 = b % 6, c1 = c / 6, c2 = c % 6;
                    if (a1 < a2 && b1 < b2 && c1 < c2) {
                        COMPOSED[relation(a1, a2, b1, b2)][relation(b1, b2, c1, c2)] |= 1 << relation(a1, a2, c1, c2);
                    }
                }
            }
        }
    }

    static int compose(int first, int second) {
        int result = 0;
        for (int r = 0; r < 13; r++) {
            for (int s = 0; s < 13; s++) {
                if ((first >> r & 1) == 1 && (second >> s & 1) == 1) result |= COMPOSED[r][s];
            }
        }
        return result;
    }

    static int turn(int set) {
        int result = 0;
        for (int r = 0; r < 13; r++) {
            if ((set >> r & 1) == 1) result |= 1 << (12 - r);
        }
        return result;
    }

    // ---- all histories: four bits a pair, the first pair highest, so that their order is that of numbers

    static long[] allHistories(int events) {
        if (HISTORIES[events] == null) {
            long[] room = new long[3000000];
            int size = list(events, 0, new int[2 * events], 0, 0L, room, 0);
            HISTORIES[events] = Arrays.copyOf(room, size);
            Arrays.sort(HISTORIES[events]);
        }
        return HISTORIES[events];
    }

    /** Every way to give the ends numbers below 2 * events, but only those that leave no number out. */
    private static int list(int events, int at, int[] ends, int used, long relations, long[] room, int size) {
        if (at == events) {
            if ((used & used + 1) == 0) room[size++] = relations;
            return size;
        }
        for (int b = 0; b < 2 * events; b++) {
            for (int e = b + 1; e < 2 * events; e++) {
                ends[2 * at] = b;
                ends[2 * at + 1] = e;
                long all = relations;
                for (int x = 0; x < at; x++) {
                    all = all << 4 | relation(ends[2 * x], ends[2 * x + 1], b, e);
                }
                size = list(events, at + 1, ends, used | 1 << b | 1 << e, all, room, size);
            }
        }
        return size;
    }

    private int pairs() {
        return events * (events - 1) / 2;
    }

    int relationIn(long history, int x, int y) {
        if (x == y) return 6;
        if (x > y) return 12 - relationIn(history, y, x);
        int pair = y * (y - 1) / 2 + x;
        return (int) (history >> 4 * (pairs() - 1 - pair)) & 15;
    }

    private boolean agrees(long history, List<Observation> all, int gone) {
        for (int k = 0; k < all.size(); k++) {
            Observation o = all.get(k);
            if ((gone >> k & 1) == 0 && (o.set >> relationIn(history, o.x, o.y) & 1) == 0) return false;
        }
        return true;
    }

    private long[] histories() {
        if (mine == null) mine = Arrays.stream(allHistories(events)).filter(h -> agrees(h, observations, 0)).toArray();
        return mine;
    }

    /** The first history without these, or -1. */
    private long firstWithout(int gone) {
        for (long history : allHistories(events)) {
            if (agrees(history, observations, gone)) return history;
        }
        return -1;
    }

    private void changed() {
        mine = null;
        closed = null;
    }

    private boolean event(int x) {
        return x >= 0 && x < events;
    }

    private boolean two(int x, int y) {
        return event(x) && event(y) && x != y;
    }

    private boolean known(int k) {
        return k >= 0 && k < observations.size();
    }

    // ---- the face

    int type(int letter) {
        if (letter < 0 || letter > 255) return BAD;
        if (text.length() == 160) return FULL;
        text += (char) letter;
        return text.length();
    }

    int clear() {
        int had = text.length();
        text = "";
        return had;
    }

    int tells() {
        ModelText read = new ModelText(text);
        if (read.fault >= 0) return -10 - read.fault;
        events = read.events;
        observations = new ArrayList<>(read.observations);
        past.clear();
        seen.clear();
        images = new ArrayList<>(Arrays.asList(null, null));
        text = "";
        changed();
        return read.items;
    }

    int observed(int k, int what) {
        if (!known(k) || what < 0 || what > 2) return BAD;
        Observation o = observations.get(k);
        return what == 0 ? o.x : what == 1 ? o.y : o.set;
    }

    private void remember() {
        past.add(new ArrayList<>(observations));
        if (past.size() > 8) past.remove(0);
        changed();
    }

    int adds(int x, int set, int y) {
        if (!two(x, y) || set < 1 || set > 8191) return BAD;
        if (observations.size() == 8) return FULL;
        remember();
        observations.add(new Observation(x, set, y));
        return observations.size();
    }

    int takes(int k) {
        if (!known(k)) return BAD;
        remember();
        observations.remove(k);
        return observations.size();
    }

    int turns(int k, int set) {
        if (!known(k) || set < 1 || set > 8191) return BAD;
        Observation o = observations.get(k);
        if (o.set == set) return STATE;
        remember();
        observations.set(k, new Observation(o.x, set, o.y));
        return o.set;
    }

    int undo() {
        if (past.isEmpty()) return STATE;
        observations = past.remove(past.size() - 1);
        changed();
        return past.size();
    }

    int turned(int r) {
        return r < 0 || r > 12 ? BAD : 12 - r;
    }

    int composed(int first, int second) {
        return first < 0 || second < 0 || first > 8191 || second > 8191 ? BAD : compose(first, second);
    }

    private int told(int x, int y) {
        if (x == y) return 64;
        int set = 8191;
        for (Observation o : observations) {
            if (o.x == x && o.y == y) set &= o.set;
            if (o.x == y && o.y == x) set &= turn(o.set);
        }
        return set;
    }

    private int[][] closedSets() {
        if (closed != null) return closed;
        closed = new int[events][events];
        for (int x = 0; x < events; x++) {
            for (int y = 0; y < events; y++) closed[x][y] = told(x, y);
        }
        boolean goes = true, barren = false;
        while (goes) {
            goes = false;
            for (int x = 0; x < events; x++) {
                for (int y = 0; y < events; y++) {
                    for (int z = 0; z < events; z++) {
                        int less = closed[x][y] & compose(closed[x][z], closed[z][y]);
                        goes |= less != closed[x][y];
                        closed[x][y] = less;
                    }
                    barren |= closed[x][y] == 0;
                }
            }
        }
        if (barren) closed = new int[events][events];
        return closed;
    }

    int left(int x, int y, int what) {
        if (!event(x) || !event(y) || what < 0 || what > 2) return BAD;
        if (what == 0) return told(x, y);
        if (what == 1) return closedSets()[x][y];
        return really(x, y);
    }

    private int really(int x, int y) {
        int set = 0;
        for (long history : histories()) set |= 1 << relationIn(history, x, y);
        return set;
    }

    int many(int most) {
        return most < 1 || most > 300 ? BAD : Math.min(most, histories().length);
    }

    int history(int k, int x, int y) {
        if (k < 0 || k > 299 || !two(x, y)) return BAD;
        return k < histories().length ? relationIn(histories()[k], x, y) : NONE;
    }

    /** Whether the end (0 begin, 1 end) of x is ahead of that of y (-1), at one time (0), behind (1). */
    private int compareEnds(long history, int x, int endX, int y, int endY) {
        if (x == y) return Integer.compare(endX, endY);
        int r = relationIn(history, x, y);
        for (int a = 0; a < 8; a++) {
            for (int b = a + 1; b < 8; b++) {
                if (relation(a, b, 2, 5) == r) return Integer.compare(endX == 0 ? a : b, endY == 0 ? 2 : 5);
            }
        }
        throw new IllegalStateException();
    }

    /** How many different times are ahead of an end, or of the end of all (x is -1). */
    private int timesAhead(long history, int x, int end) {
        int times = 0;
        for (int i = 0; i < 2 * events; i++) {
            boolean counts = x < 0 || compareEnds(history, i / 2, i % 2, x, end) < 0;
            for (int j = 0; j < i; j++) counts &= compareEnds(history, i / 2, i % 2, j / 2, j % 2) != 0;
            if (counts) times++;
        }
        return times;
    }

    int point(int x, int end) {
        if (!event(x) || end < 0 || end > 1) return BAD;
        return histories().length == 0 ? NONE : timesAhead(histories()[0], x, end);
    }

    int wrong(int what) {
        if (what < 0 || what > 1) return BAD;
        if (histories().length > 0) return 0;
        int all = (1 << observations.size()) - 1, stays = all, blame = 0;
        for (int k = 0; k < observations.size(); k++) {
            if (firstWithout(all & ~stays | 1 << k) < 0) stays &= ~(1 << k);
            if (firstWithout(1 << k) >= 0) blame |= 1 << k;
        }
        return what == 0 ? stays : blame;
    }

    int eldest() {
        int bits = 0;
        for (long history : histories()) {
            for (int x = 0; x < events; x++) {
                boolean first = true;
                for (int y = 0; y < events; y++) first &= compareEnds(history, x, 0, y, 0) <= 0;
                if (first) bits |= 1 << x;
            }
            if (bits == (1 << events) - 1) break;
        }
        return bits;
    }

    int next() {
        int best = NONE, most = 1;
        for (int y = 1; y < events; y++) {
            for (int x = 0; x < y; x++) {
                int open = Integer.bitCount(really(x, y));
                if (open > most) {
                    most = open;
                    best = 10 * x + y;
                }
            }
        }
        return best;
    }

    int sees(int x, int r, int y) {
        if (!two(x, y) || r < 0 || r > 12) return BAD;
        if (seen.size() == 6) return FULL;
        seen.add(new int[] {x, r, y});
        return seen.size();
    }

    int forget() {
        int had = seen.size();
        seen.clear();
        return had;
    }

    int unseen() {
        int bits = 0;
        for (int k = 0; k < observations.size(); k++) {
            long history = firstWithout(1 << k);
            boolean so = true;
            for (int[] s : seen) so &= history >= 0 && relationIn(history, s[0], s[2]) == s[1];
            if (so) bits |= 1 << k;
        }
        return bits;
    }

    int keep(int image) {
        if (image < 0 || image > 1) return BAD;
        images.set(image, new ArrayList<>(observations));
        return observations.size();
    }

    int back(int image) {
        if (image < 0 || image > 1) return BAD;
        if (images.get(image) == null) return STATE;
        observations = new ArrayList<>(images.get(image));
        past.clear();
        changed();
        return observations.size();
    }

    int count(int what) {
        switch (what) {
            case 0: return events;
            case 1: return observations.size();
            case 2: return seen.size();
            case 3: return text.length();
            case 4: return past.size();
            case 5: return histories().length == 0 ? NONE : timesAhead(histories()[0], -1, 0);
            default: return BAD;
        }
    }
}
