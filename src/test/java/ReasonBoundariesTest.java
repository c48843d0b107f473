import java.util.ArrayList;
import java.util.List;

/** The boundary cases of what follows from observations: sections 2 and 3 of the Terms, promises 10 to 18 and 21. */
public final class ReasonBoundariesTest {
    /** A net in which composing leaves something of every two, but there is no history. */
    private static final String CLOSED_ALONE = "events 4; a 1097 b; a 5122 d; c 2178 d; b 256 d; a 2060 c; b 1152 c;";
    /** Each rules out what no other does; together they rule out all. */
    private static final String ALL_NEEDED = "a8188b;a8179b;a8143b;a7999b;a7935b;a7679b;a7167b;a2047b;";

    private static void relations() {
        Due.sentence("each with a BEGIN and an END behind it");
        OutcropAges five = Due.told("events 5;");
        for (int e = 0; e < 5; e++) Due.due("event " + e + " ends behind its begin", five.point(e, 0) < five.point(e, 1), true);
        Due.due("no begin as its end", Due.told("events 2; a 2 b; a 64 b;").many(1), 0);
        Due.sentence("12 less r: y has RELATION r to x.");
        String[] points = {"0 1, 2 3", "0 1, 1 2", "0 2, 1 3", "0 1, 0 2", "1 2, 0 3", "1 2, 0 2", "0 1, 0 1",
            "0 2, 1 2", "0 3, 1 2", "0 2, 0 1", "1 3, 0 2", "1 2, 0 1", "2 3, 0 1"};
        for (int r = 0; r < 13; r++) {
            OutcropAges x = Due.told("events 2; a " + (1 << r) + " b;");
            Due.due("the points of relation " + r, Due.points(x), points[r]);
            Due.due("the relation of b to a", x.history(0, 1, 0), 12 - r);
        }
        Due.sentence("(One of these is so for any two.)");
        Due.due("all for two", Due.told("events 2;").many(300), 13);
        for (int r = 0; r < 13; r++) {
            Due.due("relation " + r + " alone", Due.told("events 2; a " + (1 << r) + " b;").many(300), 1);
            Due.due("all but " + r, Due.told("events 2; a " + (8191 - (1 << r)) + " b;").many(300), 12);
        }
        Due.sentence("(bits; 8191: all)");
        Due.due("all of them", Due.told("events 2; a 8191 b;").many(300), 13);
        Due.due("the first of all", Due.told("events 2; a 8191 b;").history(0, 0, 1), 0);
        Due.due("the last of all", Due.told("events 2; a 4096 b;").history(0, 0, 1), 12);
    }

    private static void words() {
        String[] quotes = {"before: 0 or 1", "covers: 11 or 12", "cuts: x begins behind y's BEGIN", "outlasts: x ends behind y's END",
            "within: x begins no sooner than y, ends no later", "with: any but 0, 1, 11, 12", "touches: 1 or 11", "same: 6"};
        int[][] relations = {{0, 1}, {11, 12}, {4, 5, 10, 11, 12}, {8, 9, 10, 11, 12}, {3, 4, 5, 6},
            {2, 3, 4, 5, 6, 7, 8, 9, 10}, {1, 11}, {6}};
        for (int w = 0; w < quotes.length; w++) {
            Due.sentence(quotes[w]);
            String word = quotes[w].substring(0, quotes[w].indexOf(':'));
            for (int r = 0; r < 13; r++) {
                boolean in = false;
                for (int one : relations[w]) in |= one == r;
                OutcropAges x = Due.told("events 2; a " + word + " b; a " + (1 << r) + " b;");
                Due.due("a " + word + " b by relation " + r, x.many(300), in ? 1 : 0);
                Due.due("its set's bit " + r, x.observed(0, 2) >> r & 1, in ? 1 : 0);
            }
        }
    }

    private static void toldSets() {
        Due.sentence("TOLD of x to y: RELATIONS that are in the SETS of all OBSERVATIONS of the two (of y to x: turned round), "
            + "8191 without any; of x to itself: 6 alone (64).");
        OutcropAges x = new OutcropAges();
        Due.due("without any", x.left(0, 1, 0), 8191);
        x.adds(0, 7, 1);
        Due.due("one", x.left(0, 1, 0), 7);
        Due.due("one, turned round", x.left(1, 0, 0), 7168);
        x.adds(1, 6144, 0);
        Due.due("two, one of them turned", x.left(0, 1, 0), 3);
        Due.due("the same turned", x.left(1, 0, 0), 6144);
        x.adds(0, 4, 1);
        Due.due("none in all", x.left(0, 1, 0), 0);
        Due.due("none in all, turned", x.left(1, 0, 0), 0);
        Due.due("another two, without any", x.left(1, 2, 0), 8191);
        for (int e = 0; e < 3; e++) Due.due(e + " to itself, though nothing is left", x.left(e, e, 0), 64);
        OutcropAges y = Due.told("a 1 b; b 1 c; c 1 a;");
        Due.due("told is not composed", y.left(0, 2, 0), 4096);
        OutcropAges eight = Due.told("a 8190 b; b 8190 a; a 8189 b; a 8187 b; a 8183 b; a 8175 b; a 8159 b; a 8127 b;");
        Due.due("eight of one two", eight.left(0, 1, 0), 8191 - 127 - 4096);
    }

    private static void manyHistories() {
        Due.sentence("HISTORIES: all ways to order the BEGINS and ENDS of all EVENTS (some of them at one time)");
        int sum = 0;
        for (int r = 0; r < 13; r++) sum += Due.told("a " + (1 << r) + " b;").many(300);
        Due.due("all of three events", sum, 409);
        Due.due("all at one time", Due.points(Due.told("a same b; b same c;")), "0 1, 0 1, 0 1");
        Due.due("one behind the other", Due.points(Due.told("events 5;")), "0 1, 2 3, 4 5, 6 7, 8 9");
        Due.sentence("How many HISTORIES there are, most (1 .. 300) at most. BAD.");
        String[] texts = {"a 8189 b; b 8027 c;", "a 4093 c; b 8181 c;", "a 8171 b; b 7167 c;", "a 7903 c; b 8031 c;"};
        for (int i = 0; i < 4; i++) {
            int all = 298 + i;
            OutcropAges x = Due.told(texts[i]);
            Due.due("many(300) of " + all, x.many(300), Math.min(all, 300));
            Due.due("many(299) of " + all, x.many(299), Math.min(all, 299));
            Due.due("many(1) of " + all, x.many(1), 1);
            Due.due("history(298, 0, 1) of " + all + " is there", x.history(298, 0, 1) >= 0, all > 298);
            Due.due("history(299, 0, 1) of " + all + " is there", x.history(299, 0, 1) >= 0, all > 299);
        }
        Due.due("most is what there is", Due.told("events 2;").many(13), 13);
        Due.due("one fewer", Due.told("events 2;").many(12), 12);
        Due.due("one more", Due.told("events 2;").many(14), 13);
        Due.due("one alone", Due.told("events 2; a same b;").many(300), 1);
        Due.due("none", Due.quarrelling().many(300), 0);
        Due.due("none of one at most", Due.quarrelling().many(1), 0);
        Due.due("none, though composing leaves some", Due.told(CLOSED_ALONE).many(300), 0);
        for (int most : new int[] {0, -1, 301, Due.MIN, Due.MAX}) Due.bad("many(" + most + ")", y -> y.many(most));
    }

    private static String history(OutcropAges x, int k) {
        StringBuilder all = new StringBuilder();
        for (int high = 1; high < x.count(0); high++) {
            for (int low = 0; low < high; low++) all.append(all.length() == 0 ? "" : " ").append(x.history(k, low, high));
        }
        return all.toString();
    }

    private static void order() {
        Due.sentence("They are told by the RELATIONS of 0 to 1, 0 to 2, 1 to 2, 0 to 3, 1 to 3, 2 to 3, 0 to 4 .. (lower EVENT to "
            + "higher), and are in order by the first of these, the lower first, then the second");
        // Two histories each: from one two of these to the next the lower relation is the other's.
        String[][] texts = {
            {"events 3; b 1032 c; a 136 b; a 36 c;", "3 5 10", "7 2 3"},
            {"events 3; a 512 b; a 272 c; b 20 c;", "9 4 4", "9 8 2"},
            {"events 4; b 136 d; a 1024 b; a 1024 c; b 1028 c; a 1280 d; c 18 d;", "10 10 2 10 3 4", "10 10 10 8 7 1"},
            {"events 4; c 264 d; a 64 c; b 3 d; a 264 d; a 2048 b; b 2 c;", "11 6 1 3 1 3", "11 6 1 8 0 8"},
            {"events 4; c 160 d; a 32 c; a 4096 b; b 17 d; b 2 c; a 32 d;", "12 5 1 5 0 7", "12 5 1 5 4 5"},
            {"events 5; c 20 d; b 1152 e; a 128 c; c 1024 e; a 512 b; b 4 c; d 4608 e; b 4 d;",
                "9 7 2 2 2 2 10 10 10 12", "9 7 2 2 2 4 8 7 10 9"},
            {"events 5; a 128 d; c 18 e; a 256 c; b 17 e; b 2 c; a 144 e; b 4 d; a 512 b;",
                "9 8 1 7 2 4 4 4 4 4", "9 8 1 7 2 4 7 0 1 7"},
            {"events 5; c 192 e; b 2 c; b 8 d; a 2048 e; c 32 d; a 2048 c; a 2048 d; d 128 e;",
                "12 11 1 11 3 5 11 0 7 7", "12 11 1 11 3 5 11 1 6 7"},
            {"events 5; a 16 c; c 160 e; a 4096 d; a 16 e; d 18 e; a 1 b; b 32 c; c 512 d;",
                "0 4 5 12 12 9 4 5 5 4", "0 4 5 12 12 9 4 5 7 1"}};
        for (String[] t : texts) {
            OutcropAges x = Due.told(t[0]);
            Due.due("many(300) of '" + t[0] + "'", x.many(300), 2);
            Due.due("the first of '" + t[0] + "'", history(x, 0), t[1]);
            Due.due("the second of '" + t[0] + "'", history(x, 1), t[2]);
        }
        OutcropAges two = Due.told("events 2;");
        for (int k = 0; k < 13; k++) Due.due("the lower first", two.history(k, 0, 1), k);
        Due.sentence("THE HISTORY: the first of all.");
        Due.due("the first of all", history(Due.told("events 5;"), 0), "0 0 0 0 0 0 0 0 0 0");
        // a to b is 11 ahead of 12, so b ends as a begins; then a to c can be 4 at first, and b to c 2.
        Due.due("its points", Due.points(Due.told("events 3; b 3 a; b with c;")), "2 3, 0 2, 1 4");
    }

    private static void historyAsked() {
        Due.sentence("The RELATION of x to y in the k-th HISTORY (0 .. 299; 0 THE HISTORY); NONE: there are not so many. "
            + "BAD (x and itself, too).");
        OutcropAges x = Due.told("events 2;");
        Due.due("the last there is", x.history(12, 0, 1), 12);
        Due.due("the last there is, turned", x.history(12, 1, 0), 0);
        Due.due("one behind it", x.history(13, 0, 1), Due.NONE);
        Due.due("the last that may be asked", x.history(299, 0, 1), Due.NONE);
        Due.due("the last that may be asked of 409", new OutcropAges().history(299, 0, 1), 9);
        Due.due("the first of none", Due.quarrelling().history(0, 0, 1), Due.NONE);
        Due.due("the last of five events", Due.told("events 5;").history(0, 4, 3), 12);
        for (int k : new int[] {-1, 300, 301, Due.MIN, Due.MAX}) Due.bad("history(" + k + ", 0, 1)", y -> y.history(k, 0, 1));
        for (int e : new int[] {-1, 5, Due.MIN, Due.MAX}) {
            Due.bad("history(0, " + e + ", 0)", y -> y.history(0, e, 0));
            Due.bad("history(0, 0, " + e + ")", y -> y.history(0, 0, e));
        }
        for (int e = 0; e < 3; e++) {
            int same = e;
            Due.bad("history(0, " + e + ", " + e + ")", y -> y.history(0, same, same));
        }
        Due.due("an event that is none of two", x.history(0, 0, 2), Due.BAD);
    }

    private static void composed() {
        Due.sentence("COMPOSED of two SETS (0 .. 8191). BAD.");
        OutcropAges x = new OutcropAges();
        for (int set : new int[] {0, 1, 64, 4096, 8191}) {
            Due.due("composed(0, " + set + ")", x.composed(0, set), 0);
            Due.due("composed(" + set + ", 0)", x.composed(set, 0), 0);
            Due.due("composed(64, " + set + ")", x.composed(64, set), set);
            Due.due("composed(" + set + ", 64)", x.composed(set, 64), set);
        }
        Due.due("composed(8191, 8191)", x.composed(8191, 8191), 8191);
        Due.due("composed(1, 1)", x.composed(1, 1), 1);
        Due.due("composed(4096, 4096)", x.composed(4096, 4096), 4096);
        for (int set : new int[] {-1, 8192, 8193, Due.MIN, Due.MAX}) {
            Due.bad("composed(" + set + ", 1)", y -> y.composed(set, 1));
            Due.bad("composed(1, " + set + ")", y -> y.composed(1, set));
            Due.bad("composed(0, " + set + ")", y -> y.composed(0, set));
        }
        Due.sentence("all RELATIONS that some x can have to some z, if x has one of the first SET to some y, which has one of the "
            + "second to z");
        for (int r = 0; r < 13; r++) {
            for (int s = 0; s < 13; s++) {
                OutcropAges three = Due.told("a " + (1 << r) + " b; b " + (1 << s) + " c;");
                Due.due("composed " + r + " " + s, x.composed(1 << r, 1 << s), three.left(0, 2, 2));
                Due.due("composed " + r + " " + s, x.composed(1 << r, 1 << s), Model.compose(1 << r, 1 << s));
            }
        }
        Due.due("one of each", x.composed(2 | 64, 8 | 32), x.composed(2, 8) | x.composed(2, 32) | 8 | 32);
        Due.sentence("The RELATION that y has to x, if x has r to y. BAD.");
        for (int r = 0; r < 13; r++) Due.due("turned(" + r + ")", x.turned(r), 12 - r);
        for (int r : new int[] {-1, 13, Due.MIN, Due.MAX}) Due.bad("turned(" + r + ")", y -> y.turned(r));
    }

    /** A row of 0 to 4, one of 120. */
    private static List<Integer> names(int way) {
        List<Integer> left = new ArrayList<>(List.of(0, 1, 2, 3, 4));
        List<Integer> names = new ArrayList<>();
        for (int n = 5, rest = way; n > 0; rest /= n, n--) names.add(left.remove(rest % n));
        return names;
    }

    /**
     * The same is left if the events have other names, so that any two can be the last of which something goes, and by
     * which something more goes.
     */
    private static void renamed(int way) {
        List<Integer> names = names(way);
        int[][] told = {{4, 1572, 1}, {1, 844, 0}, {4, 4112, 0}, {0, 2210, 2}};
        int[] want = {64, 1560, 2210, 8191, 257, 780, 64, 3999, 8191, 132, 2210, 7998, 64, 8191, 8071, 8191, 8191, 8191, 64, 8191,
            4112, 1056, 7231, 8191, 64};
        OutcropAges x = Due.told("events 5;");
        for (int[] t : told) x.adds(names.get(t[0]), t[1], names.get(t[2]));
        for (int i = 0; i < 25; i++) {
            Due.due("left of " + i / 5 + " to " + i % 5 + ", as " + names, x.left(names.get(i / 5), names.get(i % 5), 1), want[i]);
        }
    }

    private static void closed() {
        Due.sentence("till nothing more goes");
        OutcropAges chain = Due.told("events 5; d before e; c before d; b before c; a before b;");
        for (int e = 2; e < 5; e++) Due.due("0 to " + e + " of a chain", chain.left(0, e, 1), 1);
        // What goes here goes in four rounds over all events, one behind the other.
        OutcropAges four = Due.told("events 5; d 4098 e; c 256 e; b 2186 a; e 4624 b; a 6515 c; d 6947 b; c 1544 d;");
        int[] want = {64, 2594, 371, 7999, 2047, 2186, 64, 31, 2075, 9, 6608, 7936, 64, 1536, 256, 8095, 6914, 12, 64, 2,
            8188, 4608, 16, 2048, 64};
        for (int i = 0; i < 25; i++) Due.due("left(" + i / 5 + ", " + i % 5 + ", 1)", four.left(i / 5, i % 5, 1), want[i]);
        for (int way = 0; way < 120; way++) renamed(way);
        Due.sentence("(nothing is left anywhere, if nothing is left of any two)");
        String[] texts = {"events 5; a 1 b; a 2 b;", "events 5; d 1 e; e 1 d;", "events 5; a 1 b; b 1 c; c 1 a;",
            "events 5; c 64 d; d 64 e; c 1 e;"};
        for (String text : texts) {
            OutcropAges x = Due.told(text);
            for (int i = 0; i < 25; i++) Due.due(i / 5 + " to " + i % 5 + " of " + text, x.left(i / 5, i % 5, 1), 0);
        }
        OutcropAges two = Due.told("events 2; a 1 b; a 2 b;");
        for (int i = 0; i < 4; i++) Due.due(i / 2 + " to " + i % 2 + " of two", two.left(i / 2, i % 2, 1), 0);
    }

    private static void really() {
        Due.sentence("REALLY of x to y: RELATIONS that they have in some HISTORY.");
        OutcropAges x = Due.told("events 4; c 7 d; b 52 d; b 2944 c; a 384 c; a 3712 b; a 4225 d;");
        Due.due("closed is more", x.left(1, 2, 1), 2944);
        Due.due("really is less", x.left(1, 2, 2), 2432);
        Due.due("really is less, turned", x.left(2, 1, 2), 50);
        // b before c is so in one history alone, which is the first for nothing else.
        Due.due("the first relation, in a later history", Due.told("a 257 b; a 144 c;").left(1, 2, 2), 7231);
        Due.due("beyond the first 300 histories", Due.told("events 5;").left(0, 1, 2), 8191);
        Due.sentence("0 TOLD, 1 CLOSED, 2 REALLY (SETS; of x to itself: 64, but 0, where nothing is left). BAD.");
        OutcropAges none = Due.told(CLOSED_ALONE);
        for (int e = 0; e < 4; e++) {
            Due.due("told to itself", none.left(e, e, 0), 64);
            Due.due("closed to itself, where something is left", none.left(e, e, 1), 64);
            Due.due("really to itself, where nothing is left", none.left(e, e, 2), 0);
        }
        Due.due("closed, where something is left", none.left(0, 1, 1), 1032);
        Due.due("really, where nothing is left", none.left(0, 1, 2), 0);
        OutcropAges quarrelling = Due.quarrelling();
        OutcropAges open = Due.told("events 5;");
        for (int e = 0; e < 5; e++) {
            Due.due("told to itself", quarrelling.left(e, e, 0), 64);
            Due.due("closed to itself, where nothing is left", quarrelling.left(e, e, 1), 0);
            Due.due("really to itself, where nothing is left", quarrelling.left(e, e, 2), 0);
            for (int what = 0; what < 3; what++) Due.due("to itself", open.left(e, e, what), 64);
        }
        for (int e : new int[] {-1, 5, Due.MIN, Due.MAX}) {
            for (int what = 0; what < 3; what++) {
                int w = what;
                Due.bad("left(" + e + ", 0, " + what + ")", y -> y.left(e, 0, w));
                Due.bad("left(0, " + e + ", " + what + ")", y -> y.left(0, e, w));
                Due.bad("left(" + e + ", " + e + ", " + what + ")", y -> y.left(e, e, w));
            }
        }
        for (int what : new int[] {-1, 3, Due.MIN, Due.MAX}) {
            Due.bad("left(0, 1, " + what + ")", y -> y.left(0, 1, what));
            Due.bad("left(0, 0, " + what + ")", y -> y.left(0, 0, what));
        }
    }

    private static void pointsAsked() {
        Due.sentence("POINTS of THE HISTORY: times at which anything begins or ends are numbered, the first 0.");
        Due.due("at one time", Due.points(Due.told("a same b; b 2 c;")), "0 1, 0 1, 1 2");
        Due.due("the first is not that of event 0", Due.points(Due.told("c 1 b; b 1 a;")), "4 5, 2 3, 0 1");
        Due.sentence("The POINT at which an EVENT begins (end 0), ends (1) in THE HISTORY; NONE: there is none. BAD.");
        OutcropAges x = Due.told("events 5;");
        Due.due("the first", x.point(0, 0), 0);
        Due.due("the last of ten", x.point(4, 1), 9);
        Due.due("the last of two", Due.told("events 5; a same b; b same c; c same d; d same e;").point(4, 1), 1);
        Due.due("of none", Due.quarrelling().point(0, 0), Due.NONE);
        Due.due("of none, the last", Due.quarrelling().point(4, 1), Due.NONE);
        Due.due("though composing leaves some", Due.told(CLOSED_ALONE).point(0, 0), Due.NONE);
        Due.due("how many of none", Due.told(CLOSED_ALONE).count(5), Due.NONE);
        for (int e : new int[] {-1, 5, Due.MIN, Due.MAX}) Due.bad("point(" + e + ", 0)", y -> y.point(e, 0));
        for (int end : new int[] {-1, 2, Due.MIN, Due.MAX}) Due.bad("point(0, " + end + ")", y -> y.point(0, end));
    }

    /**
     * Each event lies in one gap between two ends of those ahead of it: ahead of the last event's begin, within it, or
     * behind its end (the figures of way to base 3). Both ends of the gap are told, so that there is one history.
     */
    private static void nested(int way) {
        OutcropAges x = Due.told("events 5;");
        List<Integer> ends = new ArrayList<>(List.of(0, 1));
        for (int e = 1, rest = way; e < 5; e++, rest /= 3) {
            int gap = ends.indexOf(2 * e - 2) + rest % 3;
            int ahead = gap > 0 ? ends.get(gap - 1) : -1;
            int behind = gap < ends.size() ? ends.get(gap) : -1;
            if (ahead >= 0) x.adds(e, ahead % 2 == 0 ? 16 : 4096, ahead / 2);
            if (behind >= 0 && (ahead < 0 || behind / 2 != ahead / 2)) x.adds(e, behind % 2 == 0 ? 1 : 16, behind / 2);
            ends.add(gap, 2 * e);
            ends.add(gap + 1, 2 * e + 1);
        }
        Due.due("many(300) of way " + way, x.many(300), 1);
        for (int i = 0; i < 10; i++) Due.due("point(" + i / 2 + ", " + i % 2 + ") of way " + way, x.point(i / 2, i % 2), ends.indexOf(i));
        Due.due("count(5) of way " + way, x.count(5), 10);
    }

    private static void nestedEvents() {
        Due.sentence("times at which anything begins or ends are numbered, the first 0");
        for (int way = 0; way < 81; way++) nested(way);
    }

    private static String findings(OutcropAges x) {
        return x.left(0, 1, 1) + " " + x.left(0, 1, 2) + " " + x.many(300) + " " + x.history(0, 0, 1) + " " + x.count(5) + " "
            + x.eldest() + " " + x.next() + " " + x.wrong(0) + " " + x.wrong(1);
    }

    /** Behind each change all is asked: nothing that was found ahead of it is answered any more. */
    private static void changes() {
        String startsOrDuring = "24 24 2 3 3 3 1 0 0";
        String before = "1 1 1 0 4 1 -9 0 0";
        String quarrel = "0 0 0 -9 -9 0 -9 3 3";
        OutcropAges x = Due.told("events 2; a 24 b;");
        x.keep(0);
        Due.due("what is found at first", findings(x), startsOrDuring);
        Due.sentence("TURNED: one has another SET.");
        x.turns(0, 1);
        Due.due("what is found behind turns()", findings(x), before);
        Due.sentence("ADDED: an OBSERVATION more.");
        x.adds(1, 2048, 0);
        Due.due("what is found behind adds()", findings(x), quarrel);
        Due.sentence("UNDONE: the latest adds(), takes(), turns() that was not refused");
        x.undo();
        Due.due("what is found behind undo()", findings(x), before);
        x.undo();
        Due.due("what is found behind undo()", findings(x), startsOrDuring);
        x.turns(0, 1);
        x.adds(0, 2, 1);
        Due.due("what is found behind both", findings(x), quarrel);
        Due.sentence("TAKEN: one less");
        x.takes(0);
        Due.due("what is found behind takes(0)", findings(x), "2 2 1 1 3 1 -9 0 0");
        x.undo();
        Due.due("what is found behind undo()", findings(x), quarrel);
        x.takes(1);
        Due.due("what is found behind takes(1)", findings(x), before);
        x.takes(0);
        Due.due("what is found of nothing", findings(x), "8191 8191 13 0 4 3 1 0 0");
        Due.sentence("OBSERVATIONS are as an IMAGE has them: how many.");
        x.back(0);
        Due.due("what is found behind back()", findings(x), startsOrDuring);
        Due.sentence("THE TEXT tells all anew");
        Due.type(x, "events 2; a 1 b; a 2 b;");
        x.tells();
        Due.due("what is found behind tells()", findings(x), quarrel);
        x.tells();
        Due.due("what is found behind tells() of nothing", findings(x), "8191 8191 300 0 6 7 1 0 0");
    }

    private static void quarrel() {
        Due.sentence("QUARREL: 0, if there is a HISTORY");
        Due.due("no observations", new OutcropAges().wrong(0), 0);
        Due.due("one", Due.told("a 1 b;").wrong(0), 0);
        Due.due("eight", Due.told("a1b;a3b;a5b;a7b;a9b;a11b;a13b;a15b;").wrong(0), 0);
        Due.sentence("of all of them one after the other goes, 0 first, if there is no HISTORY without it and without those that "
            + "went; what stays");
        Due.due("two", Due.told("a 1 b; a 2 b;").wrong(0), 3);
        Due.due("the first of two alike goes", Due.told("a 1 b; a 1 b; a 2 b;").wrong(0), 2 + 4);
        Due.due("the last two of eight stay", Due.told("a1b;a2b;a1b;a2b;a1b;a2b;a1b;a2b;").wrong(0), 64 + 128);
        Due.due("the first and the last of eight", Due.told("a1b;a7b;a7b;a7b;a7b;a7b;a7b;a6b;").wrong(0), 1 + 128);
        Due.due("what is without need goes", Due.told("a 4096 b;a8190b;b8190a;a8190c;b8190c;c8190a;b 64 c;a1c;").wrong(0), 8 + 128);
        Due.due("all eight stay", Due.told(ALL_NEEDED).wrong(0), 255);
        Due.due("a quarrel of four events", Due.told("events 4; a 1 b; b 1 c; c 1 d; d 1 a;").wrong(0), 15);
        Due.due("one of two quarrels stays", Due.told("events 4; a 1 b; c 1 d; a 2 b; c 2 d;").wrong(0), 2 + 8);
        Due.due("though composing leaves some", Due.told(CLOSED_ALONE).wrong(0), 63);
        Due.sentence("BLAME: OBSERVATIONS (bits) each of which alone, being gone, leaves a HISTORY, if there is none; 0, if there is one.");
        Due.due("no observations", new OutcropAges().wrong(1), 0);
        Due.due("one", Due.told("a 1 b;").wrong(1), 0);
        Due.due("either of two", Due.told("a 1 b; a 2 b;").wrong(1), 3);
        Due.due("one against two", Due.told("a 1 b; a 2 b; a 1 b;").wrong(1), 2);
        Due.due("two quarrels", Due.told("events 4; a 1 b; c 1 d; a 2 b; c 2 d;").wrong(1), 0);
        Due.due("the last of eight", Due.told("a1b;a1b;a1b;a1b;a1b;a1b;a1b;a2b;").wrong(1), 128);
        Due.due("each of eight", Due.told(ALL_NEEDED).wrong(1), 255);
        Due.due("though composing leaves some", Due.told(CLOSED_ALONE).wrong(1), 63);
        Due.sentence("QUARREL (what = 0), BLAME (1). BAD.");
        for (int what : new int[] {-1, 2, Due.MIN, Due.MAX}) Due.bad("wrong(" + what + ")", y -> y.wrong(what));
    }

    private static void eldest() {
        Due.sentence("ELDEST: EVENTS (bits) that in some HISTORY begin no later than all others.");
        for (int n = 2; n <= 5; n++) Due.due("all of " + n, Due.told("events " + n + ";").eldest(), (1 << n) - 1);
        // Who may be eldest of two, by their relation: 1 the first, 2 the second, 3 both, at one time.
        int[] eldest = {1, 1, 1, 3, 2, 2, 3, 1, 1, 3, 2, 2, 2};
        for (int r = 0; r < 13; r++) Due.due("by relation " + r, Due.told("events 2; a " + (1 << r) + " b;").eldest(), eldest[r]);
        Due.due("the last of five", Due.told("events 5; a cuts e; b cuts e; c cuts e; d cuts e;").eldest(), 16);
        Due.due("all at one time", Due.told("events 5; a same b; b same c; c same d; d same e;").eldest(), 31);
        Due.due("no history", Due.quarrelling().eldest(), 0);
        Due.due("no history, though composing leaves some", Due.told(CLOSED_ALONE).eldest(), 0);
    }

    private static void next() {
        Due.sentence("NEXT: the two EVENTS of which most RELATIONS are left REALLY, of several the first (as in 2): 10 times the lower "
            + "and the higher; NONE: all are known, or there is no HISTORY.");
        Due.due("of all the first", Due.told("events 5;").next(), 1);
        int[] pairs = {1, 2, 12, 3, 13, 23, 4, 14};
        OutcropAges x = Due.told("events 5;");
        for (int i = 0; i < 8; i++) {
            Due.due("the first of which nothing was told", x.next(), pairs[i]);
            x.adds(pairs[i] / 10, 8190, pairs[i] % 10);
        }
        Due.due("the last but one", x.next(), 24);
        x.takes(0);
        x.adds(2, 8190, 4);
        Due.due("the first again", x.next(), 1);
        Due.due("the last of five", Due.told("events 5; a same b; a same c; a before d; a before e;").next(), 34);
        Due.due("the last of two relations", Due.told("events 2; a 6 b;").next(), 1);
        Due.due("twelve beat eleven", Due.told("events 3; a 8188 b; b 8190 c; a 8188 c;").next(), 12);
        Due.due("all are known", Due.told("events 2; a 4 b;").next(), Due.NONE);
        Due.due("all are known of five", Due.told("events 5; a same b; b same c; c same d; d same e;").next(), Due.NONE);
        Due.due("all are known by composing", Due.told("a 1 b; b 1 c;").next(), Due.NONE);
        Due.due("there is no history", Due.quarrelling().next(), Due.NONE);
        Due.due("no history, though composing leaves some", Due.told(CLOSED_ALONE).next(), Due.NONE);
        // By what composing leaves it would be 23, and 2.
        Due.due("what is left really", Due.told("events 4; a 1045 b; a 4624 c; b 6304 c; a 516 d; b 1056 d; c 2821 d;").next(), 2);
        Due.due("what is left really", Due.told("events 4; a 1036 b; a 4611 c; b 1424 c; a 4138 d; b 2256 d; c 4105 d;").next(), 3);
    }

    private static void unseen() {
        Due.sentence("THE HISTORY with one unknown OBSERVATION gone would have RELATION r of x to y. UNSEEN: OBSERVATIONS (bits) by "
            + "which all that was SEEN is so.");
        OutcropAges x = Due.told("a 16 b; b 32 c;");
        Due.due("nothing seen", x.unseen(), 3);
        x.sees(0, 0, 1);
        Due.due("a before b: without 0", x.unseen(), 1);
        x.sees(1, 12, 0);
        Due.due("the same, turned", x.unseen(), 1);
        x.sees(1, 5, 2);
        Due.due("b finishes c: without 0", x.unseen(), 1);
        x.sees(1, 0, 2);
        Due.due("not all of it can be", x.unseen(), 0);
        x.forget();
        x.sees(1, 0, 2);
        Due.due("b before c: without 1", x.unseen(), 2);
        x.forget();
        x.sees(0, 2, 1);
        Due.due("without none", x.unseen(), 0);
        OutcropAges sixth = Due.told("a 16 b; b 32 c;");
        for (int i = 0; i < 5; i++) sixth.sees(0, 0, 1);
        Due.due("five are so", sixth.unseen(), 1);
        sixth.sees(0, 1, 1);
        Due.due("the sixth is not", sixth.unseen(), 0);
        OutcropAges eight = Due.told("a1b;a1b;a1b;a1b;a1b;a1b;a1b;a2b;");
        Due.due("eight, nothing seen", eight.unseen(), 255);
        eight.sees(0, 0, 1);
        Due.due("no history but without the last", eight.unseen(), 128);
        Due.due("no observations, nothing seen", new OutcropAges().unseen(), 0);
        OutcropAges none = new OutcropAges();
        none.sees(0, 0, 1);
        Due.due("no observations", none.unseen(), 0);
        none.adds(0, 64, 1);
        Due.due("one that was added behind it", none.unseen(), 1);
        OutcropAges first = Due.told("a 6 b;");
        first.sees(0, 12, 1);
        Due.due("another history than the first does not count", first.unseen(), 0);
    }

    public static void main(String[] args) {
        relations();
        words();
        toldSets();
        manyHistories();
        order();
        historyAsked();
        composed();
        closed();
        really();
        pointsAsked();
        nestedEvents();
        changes();
        quarrel();
        eldest();
        next();
        unseen();
        Due.end();
    }
}
