import java.util.function.ToIntFunction;

/** The boundary cases of what is kept and changed: promises 1, 5 to 9, 19, 20, 22 to 24, and how a call is refused. */
public final class StateBoundariesTest {
    private static void newObject() {
        Due.sentence("As told; no OBSERVATIONS.");
        OutcropAges x = new OutcropAges();
        int[] counts = {3, 0, 0, 0, 0, 6};
        for (int what = 0; what < 6; what++) Due.due("count(" + what + ")", x.count(what), counts[what]);
        Due.due("observed(0, 0)", x.observed(0, 0), Due.BAD);
        Due.due("takes(0)", x.takes(0), Due.BAD);
        Due.due("turns(0, 1)", x.turns(0, 1), Due.BAD);
        Due.due("undo()", x.undo(), Due.STATE);
        Due.due("back(0)", x.back(0), Due.STATE);
        Due.due("back(1)", x.back(1), Due.STATE);
        Due.due("clear()", x.clear(), 0);
        Due.due("forget()", x.forget(), 0);
        Due.due("unseen()", x.unseen(), 0);
        Due.due("wrong(0)", x.wrong(0), 0);
        Due.due("wrong(1)", x.wrong(1), 0);
        Due.alike("of two new ones", OutcropAges::new, OutcropAges::new);
        OutcropAges other = Due.full();
        Due.due("one beside a full one", new OutcropAges().count(1) + other.count(1), 8);
    }

    private static void observed() {
        Due.sentence("Of an OBSERVATION: 0 x, 1 y, 2 its SET. BAD.");
        OutcropAges x = Due.told("events 5; e 8191 a; a 1 e;");
        Due.due("both", Due.observations(x), "4 8191 0, 0 1 4");
        Due.due("one behind the last", x.observed(2, 0), Due.BAD);
        x.takes(1);
        Due.due("one that was taken", x.observed(1, 0), Due.BAD);
        Due.due("the one that is left", x.observed(0, 2), 8191);
        Due.due("the eighth", Due.full().observed(7, 2), 8000);
        for (int k : new int[] {-1, 8, 9, Due.MIN, Due.MAX}) Due.bad("observed(" + k + ", 0)", y -> y.observed(k, 0));
        for (int what : new int[] {-1, 3, Due.MIN, Due.MAX}) Due.bad("observed(0, " + what + ")", y -> y.observed(0, what));
    }

    private static void adds() {
        Due.sentence("ADDED (a SET 1 .. 8191): OBSERVATIONS. BAD (x and itself, too); FULL: 8.");
        OutcropAges x = new OutcropAges();
        Due.due("adds(0, 1, 2)", x.adds(0, 1, 2), 1);
        Due.due("adds(2, 8191, 0)", x.adds(2, 8191, 0), 2);
        for (int n = 3; n <= 8; n++) Due.due("the " + n + "-th", x.adds(1, n, 2), n);
        Due.due("the ninth", x.adds(0, 1, 1), Due.FULL);
        Due.due("the eight", Due.observations(x), "0 1 2, 2 8191 0, 1 3 2, 1 4 2, 1 5 2, 1 6 2, 1 7 2, 1 8 2");
        x.takes(0);
        Due.due("room again", x.adds(0, 9, 1), 8);
        for (int set : new int[] {0, -1, 8192, 8193, Due.MIN, Due.MAX}) Due.bad("adds(0, " + set + ", 1)", y -> y.adds(0, set, 1));
        for (int e : new int[] {-1, 5, 6, Due.MIN, Due.MAX}) {
            Due.bad("adds(" + e + ", 1, 0)", y -> y.adds(e, 1, 0));
            Due.bad("adds(0, 1, " + e + ")", y -> y.adds(0, 1, e));
            Due.bad("adds(" + e + ", 1, " + e + ")", y -> y.adds(e, 1, e));
        }
        for (int e = 0; e < 3; e++) {
            int same = e;
            Due.bad("adds(" + e + ", 64, " + e + ")", y -> y.adds(same, 64, same));
        }
        Due.due("the first event that is none", Due.told("events 2;").adds(0, 1, 2), Due.BAD);
        Due.due("the last event of five", Due.told("events 5;").adds(4, 1, 0), 1);
    }

    private static void takes() {
        Due.sentence("TAKEN: one less (those behind it have numbers 1 lower).");
        String eight = "a1b;a2b;a3b;a4b;a5b;a6b;a7b;b8c;";
        OutcropAges x = Due.told(eight);
        Due.due("takes the first", x.takes(0), 7);
        Due.due("observations", Due.observations(x), "0 2 1, 0 3 1, 0 4 1, 0 5 1, 0 6 1, 0 7 1, 1 8 2");
        Due.due("takes the last", x.takes(6), 6);
        Due.due("observations", Due.observations(x), "0 2 1, 0 3 1, 0 4 1, 0 5 1, 0 6 1, 0 7 1");
        Due.due("takes one between", x.takes(2), 5);
        Due.due("observations", Due.observations(x), "0 2 1, 0 3 1, 0 5 1, 0 6 1, 0 7 1");
        Due.sentence("TAKEN: OBSERVATIONS that are left. BAD.");
        OutcropAges one = Due.told("a 1 b;");
        Due.due("one behind the last", one.takes(1), Due.BAD);
        Due.due("the only one", one.takes(0), 0);
        Due.due("nothing is told then", one.left(0, 1, 0), 8191);
        Due.due("none", one.takes(0), Due.BAD);
        for (int k : new int[] {-1, 8, 9, Due.MIN, Due.MAX}) Due.bad("takes(" + k + ")", y -> y.takes(k));
    }

    private static void turns() {
        Due.sentence("TURNED: the SET that it had. BAD; STATE: it is that.");
        OutcropAges x = Due.told("a 1 b; b 2 c;");
        Due.due("to all", x.turns(0, 8191), 1);
        Due.due("to the least", x.turns(0, 1), 8191);
        Due.due("the last one", x.turns(1, 3), 2);
        Due.due("observations", Due.observations(x), "0 1 1, 1 3 2");
        Due.due("it is that", x.turns(0, 1), Due.STATE);
        Due.due("it is that, the last one", x.turns(1, 3), Due.STATE);
        Due.due("three may be undone", x.count(4), 3);
        Due.due("one behind the last", x.turns(2, 3), Due.BAD);
        for (int k : new int[] {-1, 8, 9, Due.MIN, Due.MAX}) Due.bad("turns(" + k + ", 8188)", y -> y.turns(k, 8188));
        for (int set : new int[] {0, -1, 8192, Due.MIN, Due.MAX}) Due.bad("turns(0, " + set + ")", y -> y.turns(0, set));
        Due.unchanged("turns(0, what it is)", y -> y.turns(0, Math.max(1, y.observed(0, 2))), Due.BAD, Due.STATE, Due.STATE);
    }

    private static void undoes() {
        Due.sentence("UNDONE: the latest adds(), takes(), turns() that was not refused");
        OutcropAges x = Due.told("a 1 b; b 2 c; c 4 a;");
        String[] stands = new String[4];
        stands[0] = Due.observations(x);
        x.takes(0);
        stands[1] = Due.observations(x);
        x.turns(1, 77);
        stands[2] = Due.observations(x);
        x.adds(0, 9, 2);
        refuseAll(x);
        for (int i = 2; i >= 0; i--) {
            Due.due("undo()", x.undo(), i);
            Due.due("what it was", Due.observations(x), stands[i]);
            refuseAll(x);
        }
        Due.due("undo() of none", x.undo(), Due.STATE);
        x.adds(0, 9, 2);
        x.undo();
        Due.due("an undo is not undone", x.undo(), Due.STATE);
        Due.due("what stays", Due.observations(x), stands[0]);
        OutcropAges eight = Due.told("a1b;a2b;a3b;a4b;a5b;a6b;a7b;b8c;");
        eight.takes(0);
        Due.due("undo() of takes()", eight.undo(), 0);
        Due.due("the eight", Due.observations(eight), "0 1 1, 0 2 1, 0 3 1, 0 4 1, 0 5 1, 0 6 1, 0 7 1, 1 8 2");
    }

    /** Calls that are refused, and such as change no observation. */
    private static void refuseAll(OutcropAges x) {
        x.adds(0, 0, 1);
        x.adds(0, 1, 0);
        x.takes(-1);
        x.takes(8);
        x.turns(0, 0);
        x.turns(0, x.observed(0, 2));
        x.sees(0, 0, 1);
        x.forget();
        x.keep(0);
        x.keep(2);
        x.back(1);
        x.back(2);
        x.type('#');
        x.tells();
        x.clear();
        x.many(300);
        x.wrong(0);
        x.next();
    }

    private static void eightAreKnown() {
        Due.sentence("(8 are known, older ones are lost)");
        OutcropAges x = Due.told("a 1 b;");
        for (int set = 2; set <= 9; set++) {
            x.turns(0, set);
            Due.due("count(4)", x.count(4), set - 1);
        }
        x.turns(0, 10);
        Due.due("count(4) of nine", x.count(4), 8);
        x.adds(0, 11, 1);
        Due.due("count(4) of ten", x.count(4), 8);
        for (int left = 7; left >= 0; left--) {
            Due.due("undo()", x.undo(), left);
            Due.due("what it was", Due.observations(x), "0 " + (left + 3) + " 1");
        }
        Due.due("older ones", x.undo(), Due.STATE);
        Due.due("what stays", Due.observations(x), "0 3 1");
        x.turns(0, 4);
        Due.due("one more", x.count(4), 1);
        Due.sentence("UNDONE: how many more may be. STATE: none.");
        Due.due("undo() of one", x.undo(), 0);
        Due.due("undo() of none", Due.told("a 1 b;").undo(), Due.STATE);
        Due.alike("behind undo() of none", Due.behind(() -> Due.told("a 1 b;"), OutcropAges::undo), () -> Due.told("a 1 b;"));
        OutcropAges full = Due.full();
        for (int left = 7; left >= 0; left--) Due.due("undo() of a full one", full.undo(), left);
        Due.due("undo() of a full one", full.undo(), Due.STATE);
        Due.due("seen stays", full.count(2), 6);
        Due.due("letters stay", full.count(3), 160);
        Due.due("the images stay", full.back(0) + 10 * full.back(1), 33);
    }

    private static void sees() {
        Due.sentence("SEEN (6 at most)");
        OutcropAges x = new OutcropAges();
        for (int n = 1; n <= 6; n++) Due.due("sees(0, 12, 2)", x.sees(0, 12, 2), n);
        Due.due("the seventh", x.sees(0, 12, 2), Due.FULL);
        Due.due("count(2)", x.count(2), 6);
        Due.sentence("SEEN: how much there is. BAD (x and itself, too); FULL: 6.");
        OutcropAges y = new OutcropAges();
        Due.due("the least relation", y.sees(0, 0, 2), 1);
        Due.due("the last relation", y.sees(2, 12, 0), 2);
        Due.due("nothing of it can be undone", y.undo(), Due.STATE);
        for (int r : new int[] {-1, 13, Due.MIN, Due.MAX}) Due.bad("sees(0, " + r + ", 1)", z -> z.sees(0, r, 1));
        for (int e : new int[] {-1, 5, Due.MIN, Due.MAX}) {
            Due.bad("sees(" + e + ", 0, 1)", z -> z.sees(e, 0, 1));
            Due.bad("sees(1, 0, " + e + ")", z -> z.sees(1, 0, e));
        }
        for (int e = 0; e < 3; e++) {
            int same = e;
            Due.bad("sees(" + e + ", 6, " + e + ")", z -> z.sees(same, 6, same));
        }
        Due.due("one more of a full one", Due.full().sees(0, 5, 1), Due.FULL);
        Due.alike("behind one more", Due.behind(Due::full, z -> z.sees(0, 5, 1)), Due::full);
        Due.due("the first event that is none", Due.told("events 2;").sees(0, 1, 2), Due.BAD);
        Due.sentence("Nothing is SEEN: how much was.");
        Due.due("forget() of six", x.forget(), 6);
        Due.due("forget() of none", x.forget(), 0);
        Due.due("count(2)", x.count(2), 0);
        Due.due("room again", x.sees(0, 0, 1), 1);
        Due.due("forget() of one", x.forget(), 1);
        Due.alike("behind forget() and the same seen again", () -> {
            OutcropAges forgot = Due.full();
            forgot.forget();
            for (int i = 0; i < 6; i++) forgot.sees(0, i % 2, 1 + i % 3);
            return forgot;
        }, Due::full);
    }

    private static void images() {
        Due.sentence("IMAGES 0, 1 keep OBSERVATIONS; nothing else (nothing can be UNDONE behind back()).");
        OutcropAges x = Due.told("events 4; a 1 b; b 2 c;");
        x.keep(0);
        x.adds(0, 3, 3);
        x.sees(0, 2, 1);
        x.type('a');
        Due.due("back(0)", x.back(0), 2);
        Due.due("as they were", Due.observations(x), "0 1 1, 1 2 2");
        Due.due("undo()", x.undo(), Due.STATE);
        Due.due("count(4)", x.count(4), 0);
        Due.due("events", x.count(0), 4);
        Due.due("seen", x.count(2), 1);
        Due.due("letters", x.count(3), 1);
        Due.due("the other image", x.back(1), Due.STATE);
        x.turns(0, 5);
        Due.due("a change behind it", x.count(4), 1);
        Due.due("back(0) again", x.back(0), 2);
        Due.due("the image is as it was", Due.observations(x), "0 1 1, 1 2 2");
        Due.sentence("An IMAGE is kept: OBSERVATIONS. BAD.");
        OutcropAges none = new OutcropAges();
        Due.due("keep(0) of none", none.keep(0), 0);
        none.adds(0, 1, 1);
        Due.due("keep(1) of one", none.keep(1), 1);
        Due.due("back to none", none.back(0), 0);
        Due.due("none", none.count(1), 0);
        Due.due("back to one", none.back(1), 1);
        Due.due("keep(0) of one", none.keep(0), 1);
        none.takes(0);
        Due.due("the later image 0", none.back(0), 1);
        Due.due("keep(1) of eight", Due.full().keep(1), 8);
        OutcropAges kept = Due.told("a 1 b; a 2 b; a 3 b;");
        kept.takes(0);
        kept.keep(0);
        Due.due("what may be undone stays", kept.undo(), 0);
        for (int image : new int[] {-1, 2, Due.MIN, Due.MAX}) Due.bad("keep(" + image + ")", y -> y.keep(image));
    }

    private static void back() {
        Due.sentence("OBSERVATIONS are as an IMAGE has them: how many. BAD; STATE: none was kept.");
        OutcropAges x = Due.told("a1b;a2b;a3b;a4b;a5b;a6b;a7b;b8c;");
        x.keep(1);
        for (int i = 0; i < 8; i++) x.takes(0);
        x.keep(0);
        Due.due("back to eight", x.back(1), 8);
        Due.due("the eight", Due.observations(x), "0 1 1, 0 2 1, 0 3 1, 0 4 1, 0 5 1, 0 6 1, 0 7 1, 1 8 2");
        Due.due("back to none", x.back(0), 0);
        Due.due("the told sets are new", x.left(0, 1, 0), 8191);
        Due.due("the histories are new", x.many(300), 300);
        for (int image : new int[] {-1, 2, Due.MIN, Due.MAX}) Due.bad("back(" + image + ")", y -> y.back(image));
        Due.due("back(0), if 1 was kept alone", Due.quarrelling().back(0), Due.STATE);
        Due.alike("behind back(0)", Due.behind(Due::quarrelling, y -> y.back(0)), Due::quarrelling);
        Due.due("back(1) of a new one", new OutcropAges().back(1), Due.STATE);
        OutcropAges undone = Due.told("a 1 b;");
        undone.keep(0);
        undone.adds(0, 2, 1);
        Due.due("undo() ahead of it", undone.undo(), 0);
        Due.due("back(0) to what stands", undone.back(0), 1);
        Due.due("one", Due.observations(undone), "0 1 1");
    }

    private static void counts() {
        Due.sentence("0 EVENTS, 1 OBSERVATIONS, 2 SEEN, 3 letters of THE TEXT, 4 how many may be UNDONE, 5 POINTS of THE HISTORY "
            + "(NONE: there is none). BAD.");
        int[] full = {4, 8, 6, 160, 8};
        int[] quarrelling = {5, 3, 1, 9, 1, Due.NONE};
        for (int what = 0; what < 5; what++) Due.due("count(" + what + ") of a full one", Due.full().count(what), full[what]);
        for (int what = 0; what < 6; what++) {
            Due.due("count(" + what + ") of one that quarrels", Due.quarrelling().count(what), quarrelling[what]);
        }
        Due.due("the least POINTS", Due.told("events 5; a same b; b same c; c same d; d same e;").count(5), 2);
        Due.due("the most POINTS", Due.told("events 5;").count(5), 10);
        for (int what : new int[] {-1, 6, Due.MIN, Due.MAX}) Due.bad("count(" + what + ")", y -> y.count(what));
    }

    private static void refusalsInOrder() {
        Due.sentence("Refused, and nothing changes, the first of these: BAD (a number is not as told, or there is no such thing), "
            + "STATE (as told), FULL.");
        // A full object: what is BAD is so, though it is full, too; what is STATE is so.
        Due.due("BAD ahead of FULL, type", Due.full().type(256), Due.BAD);
        Due.due("BAD ahead of FULL, adds' x", Due.full().adds(4, 1, 0), Due.BAD);
        Due.due("BAD ahead of FULL, adds' set", Due.full().adds(0, 8192, 1), Due.BAD);
        Due.due("BAD ahead of FULL, adds' y", Due.full().adds(0, 1, 4), Due.BAD);
        Due.due("BAD ahead of FULL, adds' same", Due.full().adds(1, 1, 1), Due.BAD);
        Due.due("BAD ahead of FULL, sees' r", Due.full().sees(0, 13, 1), Due.BAD);
        Due.due("BAD ahead of FULL, sees' x", Due.full().sees(4, 1, 1), Due.BAD);
        Due.due("BAD ahead of FULL, sees' same", Due.full().sees(2, 1, 2), Due.BAD);
        Due.due("BAD ahead of STATE, turns", Due.full().turns(8, 8000), Due.BAD);
        Due.due("BAD ahead of STATE, back", new OutcropAges().back(2), Due.BAD);
        Due.due("BAD ahead of NONE, history", Due.quarrelling().history(300, 0, 1), Due.BAD);
        Due.due("BAD ahead of NONE, history's same", Due.quarrelling().history(0, 1, 1), Due.BAD);
        Due.due("BAD ahead of NONE, point", Due.quarrelling().point(5, 0), Due.BAD);
        Due.due("BAD ahead of NONE, point's end", Due.quarrelling().point(0, 2), Due.BAD);
        Due.alike("behind what is FULL or STATE", () -> {
            OutcropAges full = Due.full();
            Due.due("a full text", full.type(32), Due.FULL);
            Due.due("full of observations", full.adds(0, 1, 1), Due.FULL);
            Due.due("full of what was seen", full.sees(0, 3, 1), Due.FULL);
            Due.due("it is that", full.turns(7, 8000), Due.STATE);
            return full;
        }, Due::full);
    }

    private static void asked(String name, ToIntFunction<OutcropAges> call) {
        Due.unchanged(name, call, call.applyAsInt(new OutcropAges()), call.applyAsInt(Due.full()), call.applyAsInt(Due.quarrelling()));
    }

    private static void nothingIsChanged() {
        Due.sentence("(Nothing is changed.)");
        asked("wrong(0)", y -> y.wrong(0));
        asked("wrong(1)", y -> y.wrong(1));
        asked("eldest()", y -> y.eldest());
        asked("next()", y -> y.next());
        asked("unseen()", y -> y.unseen());
        asked("many(1)", y -> y.many(1));
        asked("many(300)", y -> y.many(300));
        asked("history(299, 0, 1)", y -> y.history(299, 0, 1));
        asked("point(0, 0)", y -> y.point(0, 0));
        asked("left(0, 1, 0)", y -> y.left(0, 1, 0));
        asked("left(0, 1, 1)", y -> y.left(0, 1, 1));
        asked("left(0, 1, 2)", y -> y.left(0, 1, 2));
        asked("composed(5, 7)", y -> y.composed(5, 7));
        asked("turned(4)", y -> y.turned(4));
        asked("observed(0, 2)", y -> y.observed(0, 2));
        asked("count(5)", y -> y.count(5));
    }

    private static void manyCalls() {
        Due.sentence("An object is used for at most 512 calls after it has been made");
        OutcropAges x = new OutcropAges();
        for (int call = 1; call <= 512; call += 4) {
            Due.due("adds, call " + call, x.adds(0, call, 1), 1);
            Due.due("turns, call " + (call + 1), x.turns(0, call + 1), call);
            Due.due("takes, call " + (call + 2), x.takes(0), 0);
            Due.due("many, call " + (call + 3), x.many(300), 300);
        }
        OutcropAges dear = Due.told("events 5; a 5121 b; c with d; e 7000 a; b cuts e;");
        for (int call = 51; call <= 511; call += 2) {
            Due.due("turns, call " + call, dear.turns(0, call % 4 == 3 ? 5123 : 5121), call % 4 == 3 ? 5121 : 5123);
            Due.due("next, call " + (call + 1), dear.next(), 2);
        }
        // What later calls answer is free, but they end.
        OutcropAges later = Due.full();
        for (int call = 0; call < 3000; call++) {
            later.turns(call % 8, 1 + call % 8191);
            later.undo();
            later.unseen();
        }
    }

    public static void main(String[] args) {
        newObject();
        observed();
        adds();
        takes();
        turns();
        undoes();
        eightAreKnown();
        sees();
        images();
        back();
        counts();
        refusalsInOrder();
        nothingIsChanged();
        manyCalls();
        Due.end();
    }
}
