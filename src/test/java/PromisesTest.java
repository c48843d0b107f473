/** For each promise: ordinary calls, the edges that the document names, and calls that are refused. */
public final class PromisesTest {
    private static final int BAD = -1, STATE = -2, FULL = -3, NONE = -9;
    private static final int MIN = Integer.MIN_VALUE, MAX = Integer.MAX_VALUE;
    private static int wrong = 0;
    private static int answers = 0;

    private static void due(String promise, long got, long want) {
        answers++;
        if (got != want) {
            wrong++;
            System.out.println(promise + ": answered " + got + ", due is " + want);
        }
    }

    private static OutcropAges typed(String text) {
        OutcropAges x = new OutcropAges();
        type(x, text);
        return x;
    }

    private static void type(OutcropAges x, String text) {
        for (int i = 0; i < text.length(); i++) x.type(text.charAt(i));
    }

    /** An object to which a text was told that has no fault. */
    private static OutcropAges told(String text) {
        OutcropAges x = typed(text);
        int items = x.tells();
        if (items < 0) due("a text without a fault: " + text, items, 0);
        return x;
    }

    private static void faultAt(int place, String text) {
        OutcropAges x = told("events 4; a before b; c same d;");
        x.sees(0, 1, 2);
        x.keep(1);
        x.adds(0, 5, 3);
        type(x, text);
        due("fault of '" + text + "'", x.tells(), -10 - place);
        due("letters stay, '" + text + "'", x.count(3), text.length());
        due("events stay, '" + text + "'", x.count(0), 4);
        due("observations stay, '" + text + "'", x.count(1), 3);
        due("first observation stays, '" + text + "'", x.observed(0, 2), 3);
        due("seen stays, '" + text + "'", x.count(2), 1);
        due("undo stays, '" + text + "'", x.undo(), 0);
        due("image stays, '" + text + "'", x.back(1), 2);
    }

    private static void promise01() {
        OutcropAges x = new OutcropAges();
        due("1 BAD", OutcropAges.BAD, BAD);
        due("1 STATE", OutcropAges.STATE, STATE);
        due("1 FULL", OutcropAges.FULL, FULL);
        due("1 NONE", OutcropAges.NONE, NONE);
        int[] counts = {3, 0, 0, 0, 0, 6};
        for (int what = 0; what < 6; what++) due("1 count " + what, x.count(what), counts[what]);
        due("1 all is open", x.left(0, 2, 2), 8191);
        due("1 no image", x.back(0), STATE);
        due("1 no undo", x.undo(), STATE);
        due("1 no observation", x.observed(0, 0), BAD);
        due("1 objects have nothing in common", new OutcropAges().adds(0, 1, 1), 1);
        due("1 objects have nothing in common", x.count(1), 0);
    }

    private static void promise02() {
        OutcropAges x = new OutcropAges();
        due("2 first", x.type(0), 1);
        due("2 second", x.type(255), 2);
        due("2 below", x.type(-1), BAD);
        due("2 above", x.type(256), BAD);
        due("2 least", x.type(MIN), BAD);
        due("2 most", x.type(MAX), BAD);
        for (int i = 3; i <= 160; i++) due("2 letter " + i, x.type(32), i);
        due("2 full", x.type(32), FULL);
        due("2 BAD ahead of FULL", x.type(256), BAD);
        due("2 count", x.count(3), 160);
        due("2 clear", x.clear(), 160);
        due("2 room again", x.type(97), 1);
    }

    private static void promise03() {
        OutcropAges x = typed("a same b;");
        due("3 clear", x.clear(), 9);
        due("3 clear again", x.clear(), 0);
        due("3 nothing to tell", x.tells(), 0);
        due("3 no observation", x.count(1), 0);
    }

    private static void promise04Words() {
        String[] words = {"before", "covers", "cuts", "outlasts", "within", "with", "touches", "same"};
        int[] sets = {3, 6144, 7216, 7936, 120, 2044, 2050, 64};
        for (int w = 0; w < words.length; w++) {
            OutcropAges x = typed("b " + words[w] + " a;");
            due("4 " + words[w], x.tells(), 1);
            due("4 x " + words[w], x.observed(0, 0), 1);
            due("4 y " + words[w], x.observed(0, 1), 0);
            due("4 set " + words[w], x.observed(0, 2), sets[w]);
            due("4 told " + words[w], x.left(1, 0, 0), sets[w]);
        }
    }

    private static void promise04() {
        due("4 nothing", new OutcropAges().tells(), 0);
        due("4 blanks", typed("    ").tells(), 0);
        due("4 events alone", typed("events 2;").tells(), 1);
        due("4 no blanks", typed("events5;a1b;c8191e;").tells(), 3);
        due("4 many blanks", typed("  events   5  ;  a  1  b  ;  ").tells(), 2);
        due("4 as many as can be", typed("events 5;a1b;a2b;a3b;a4b;a5b;a6b;a7b;a8b;").tells(), 9);
        for (int n = 2; n <= 5; n++) due("4 events " + n, told("events " + n + ";").count(0), n);
        OutcropAges x = told("events 5; a same e;");
        x.adds(0, 1, 1);
        x.sees(0, 0, 4);
        x.keep(0);
        x.keep(1);
        type(x, "c 17 b;");
        due("4 anew", x.tells(), 1);
        int[] counts = {3, 1, 0, 0, 0};
        for (int what = 0; what < 5; what++) due("4 anew count " + what, x.count(what), counts[what]);
        due("4 anew x", x.observed(0, 0), 2);
        due("4 anew set", x.observed(0, 2), 17);
        due("4 anew y", x.observed(0, 1), 1);
        due("4 anew image 0", x.back(0), STATE);
        due("4 anew image 1", x.back(1), STATE);
        due("4 anew undo", x.undo(), STATE);
        due("4 told is empty", x.tells(), 0);
        due("4 nothing is told", x.count(1), 0);
    }

    private static void promise04Faults() {
        faultAt(0, ";");
        faultAt(0, "7;");
        faultAt(0, "same");
        faultAt(0, "ab same c;");
        faultAt(0, "ev#nts 3;");
        faultAt(0, "Events 3;");
        faultAt(2, "  d same a;");
        faultAt(0, "e 1 a;");
        faultAt(7, "events ;");
        faultAt(7, "events 1;");
        faultAt(7, "events 6;");
        faultAt(7, "events 03;");
        faultAt(7, "events 10000;");
        faultAt(7, "events c;");
        faultAt(9, "events 3 3;");
        faultAt(10, "events 3; events 3;");
        faultAt(9, "a same b;events 3;");
        faultAt(9, "events 2;c same a;");
        faultAt(14, "events 2;a 64 c;");
        faultAt(2, "a ;");
        faultAt(2, "a b;");
        faultAt(2, "a events b;");
        faultAt(2, "a befor b;");
        faultAt(2, "a tame b;");
        faultAt(2, "a samf b;");
        faultAt(0, "avents 3;");
        faultAt(0, "az same b;");
        faultAt(1, "a{ same b;");
        faultAt(1, "a` same b;");
        faultAt(3, "a 1: b;");
        faultAt(3, "a 1/ b;");
        faultAt(5, "a 9 b9;");
        faultAt(2, "a beforeb;");
        faultAt(2, "a 0 b;");
        faultAt(2, "a 8192 b;");
        faultAt(2, "a 9999 b;");
        faultAt(2, "a 10000 b;");
        faultAt(2, "a 99999999999999999999 b;");
        faultAt(2, "a 4294967297 b;");
        faultAt(2, "a 01 b;");
        faultAt(2, "a 00 b;");
        faultAt(2, "a -1 b;");
        faultAt(2, "a saXme b;");
        faultAt(7, "a same a;");
        faultAt(7, "a same 1;");
        faultAt(7, "a same ;");
        faultAt(7, "a same d;");
        faultAt(7, "a same bc;");
        faultAt(9, "a same b c;");
    }

    private static void promise04Ends() {
        faultAt(6, "events");
        faultAt(7, "events ");
        faultAt(7, "events5");
        faultAt(1, "a");
        faultAt(3, "a  ");
        faultAt(6, "a same");
        faultAt(8, "a same b");
        faultAt(10, "a same b  ");
        faultAt(10, "a same b;a");
        faultAt(9, "a same b;" + (char) 0);
        faultAt(8, "a same b" + (char) 9 + ";");
        faultAt(8, "a same b" + (char) 160 + ";");
        faultAt(9, "a same b;;");
        faultAt(32, "a1b;a2b;a3b;a4b;a5b;a6b;a7b;a8b;a9b;");
        faultAt(33, "a1b;a2b;a3b;a4b;a5b;a6b;a7b;a8b; c");
        faultAt(42, "events 3; a1b;a2b;a3b;a4b;a5b;a6b;a7b;a8b;events 3;");
        faultAt(160, " ".repeat(159) + "a");
    }

    private static void promise05() {
        OutcropAges x = told("a 5 c; c before b;");
        int[] want = {0, 2, 5, 2, 1, 3};
        for (int i = 0; i < 6; i++) due("5 observed " + i, x.observed(i / 3, i % 3), want[i]);
        due("5 no such", x.observed(2, 0), BAD);
        due("5 below", x.observed(-1, 0), BAD);
        due("5 what below", x.observed(0, -1), BAD);
        due("5 what above", x.observed(0, 3), BAD);
        due("5 least", x.observed(MIN, 0), BAD);
        due("5 most", x.observed(MAX, MAX), BAD);
    }

    private static void promise06() {
        OutcropAges x = new OutcropAges();
        int[][] bad = {{0, 1, 0}, {-1, 1, 0}, {3, 1, 0}, {0, 1, 3}, {0, 1, -1}, {0, 0, 1}, {0, 8192, 1}, {0, -1, 1},
            {MIN, 1, MAX}, {0, MAX, 1}, {0, MIN, 1}};
        for (int[] b : bad) due("6 BAD " + b[0] + " " + b[1] + " " + b[2], x.adds(b[0], b[1], b[2]), BAD);
        due("6 refused: nothing to undo", x.count(4), 0);
        for (int i = 1; i <= 8; i++) due("6 adds", x.adds(2, 8191, 0), i);
        due("6 FULL", x.adds(0, 1, 1), FULL);
        due("6 BAD ahead of FULL", x.adds(1, 1, 1), BAD);
        due("6 as added x", x.observed(7, 0), 2);
        due("6 as added y", x.observed(7, 1), 0);
        due("6 as added set", x.observed(7, 2), 8191);
        due("6 undo", x.count(4), 8);
    }

    private static void promise07() {
        OutcropAges x = told("a 1 b; b 2 c; c 4 a;");
        due("7 below", x.takes(-1), BAD);
        due("7 above", x.takes(3), BAD);
        due("7 least", x.takes(MIN), BAD);
        due("7 takes", x.takes(1), 2);
        due("7 numbers are lower x", x.observed(1, 0), 2);
        due("7 numbers are lower set", x.observed(1, 2), 4);
        due("7 gone", x.observed(2, 0), BAD);
        due("7 told no more", x.left(1, 2, 0), 8191);
        due("7 takes", x.takes(1), 1);
        due("7 takes", x.takes(0), 0);
        due("7 none", x.takes(0), BAD);
    }

    private static void promise08() {
        OutcropAges x = told("a 1 b;");
        due("8 no such", x.turns(1, 2), BAD);
        due("8 below", x.turns(-1, 2), BAD);
        due("8 no set", x.turns(0, 0), BAD);
        due("8 set above", x.turns(0, 8192), BAD);
        due("8 set below", x.turns(0, -5), BAD);
        due("8 it is that", x.turns(0, 1), STATE);
        due("8 refused: nothing to undo", x.count(4), 0);
        due("8 turns", x.turns(0, 6), 1);
        due("8 turns", x.turns(0, 1), 6);
        due("8 told", x.left(1, 0, 0), 4096);
        due("8 undo", x.count(4), 2);
    }

    private static void promise09() {
        OutcropAges x = told("a 1 b; b 2 c; c 4 a;");
        due("9 none", x.undo(), STATE);
        x.takes(0);
        x.turns(0, 77);
        x.adds(0, 9, 2);
        due("9 undo adds", x.undo(), 2);
        due("9 undo adds", x.count(1), 2);
        due("9 undo turns", x.undo(), 1);
        due("9 undo turns", x.observed(0, 2), 2);
        due("9 undo takes", x.undo(), 0);
        due("9 at its place x", x.observed(0, 0), 0);
        due("9 at its place y", x.observed(0, 1), 1);
        due("9 at its place set", x.observed(0, 2), 1);
        due("9 those behind", x.observed(2, 2), 4);
        due("9 none", x.undo(), STATE);
        for (int i = 2; i <= 11; i++) due("9 turns", x.turns(0, i), i - 1);
        due("9 eight are known", x.count(4), 8);
        for (int i = 7; i >= 0; i--) due("9 undo", x.undo(), i);
        due("9 older ones are lost", x.undo(), STATE);
        due("9 what stays", x.observed(0, 2), 3);
        x.adds(9, 9, 9);
        due("9 a refused call is no change", x.undo(), STATE);
        x.keep(0);
        due("9 keep is no change", x.undo(), STATE);
    }

    private static void promise10() {
        OutcropAges x = new OutcropAges();
        for (int r = 0; r < 13; r++) due("10 turned " + r, x.turned(r), 12 - r);
        due("10 below", x.turned(-1), BAD);
        due("10 above", x.turned(13), BAD);
        due("10 least", x.turned(MIN), BAD);
        due("10 most", x.turned(MAX), BAD);
    }

    private static void promise11() {
        OutcropAges x = new OutcropAges();
        for (int r = 0; r < 13; r++) {
            for (int s = 0; s < 13; s++) due("11 " + r + " " + s, x.composed(1 << r, 1 << s), Model.compose(1 << r, 1 << s));
        }
        due("11 meets, then starts", x.composed(2, 8), 2);
        due("11 during, then contains", x.composed(16, 256), 8191);
        due("11 of two each", x.composed(1 | 64, 4 | 64), 1 | 4 | 64);
        due("11 all", x.composed(8191, 8191), 8191);
        due("11 none", x.composed(0, 0), 0);
        due("11 none first", x.composed(0, 5), 0);
        due("11 none second", x.composed(5, 0), 0);
        due("11 first below", x.composed(-1, 1), BAD);
        due("11 first above", x.composed(8192, 1), BAD);
        due("11 second below", x.composed(1, -1), BAD);
        due("11 second above", x.composed(1, 8192), BAD);
        due("11 most", x.composed(MAX, MIN), BAD);
    }

    private static void promise12() {
        OutcropAges x = told("events 4; a before b; b before c; b 4 a; c with d; a with c;");
        due("12 a pair's observations together", x.left(0, 1, 0), 0);
        x.takes(2);
        x.takes(3);
        due("12 told", x.left(0, 1, 0), 3);
        due("12 told turned", x.left(1, 0, 0), 6144);
        due("12 nothing told", x.left(0, 2, 0), 8191);
        due("12 itself", x.left(3, 3, 0), 64);
        due("12 closed by composing", x.left(0, 2, 1), 1);
        due("12 closed turned", x.left(2, 0, 1), 4096);
        due("12 really", x.left(0, 2, 2), 1);
        due("12 itself closed", x.left(3, 3, 1), 64);
        due("12 itself really", x.left(3, 3, 2), 64);
        x.adds(2, 1, 0);
        due("12 nothing is left: told", x.left(2, 0, 0), 1);
        due("12 nothing is left: told of itself", x.left(1, 1, 0), 64);
        for (int i = 0; i < 16; i++) {
            due("12 nothing is left: closed " + i, x.left(i / 4, i % 4, 1), 0);
            due("12 nothing is left: really " + i, x.left(i / 4, i % 4, 2), 0);
        }
        int[][] bad = {{-1, 0, 0}, {4, 0, 0}, {0, -1, 0}, {0, 4, 0}, {0, 1, -1}, {0, 1, 3}, {MIN, MAX, 0}, {0, 0, MAX}};
        for (int[] b : bad) due("12 BAD " + b[0] + " " + b[1] + " " + b[2], x.left(b[0], b[1], b[2]), BAD);
        OutcropAges two = told("events 2; a 1 b; a 2 b;");
        due("12 two events", two.left(0, 0, 1), 0);
        due("12 two events", two.left(0, 1, 1), 0);
        due("12 two events", two.left(0, 0, 0), 64);
    }

    /** Composing leaves something of every two here, but no history has it. */
    private static void promise12ClosedIsNotReally() {
        String[] texts = {
            "events 4; a 1097 b; a 5122 d; c 2178 d; b 256 d; a 2060 c; b 1152 c;",
            "events 5; a 1282 c; a 1232 d; c 4097 e; a 256 e; c 610 d; b 2562 d; a 5128 b; d 1666 e;"};
        int[] closed = {1032, 5120};
        for (int i = 0; i < texts.length; i++) {
            OutcropAges x = told(texts[i]);
            due("12 closed", x.left(0, 1, 1), closed[i]);
            due("12 closed of itself", x.left(2, 2, 1), 64);
            due("12 really nothing", x.left(0, 1, 2), 0);
            due("12 really nothing of itself", x.left(2, 2, 2), 0);
            due("12 no history", x.many(300), 0);
            due("12 no point", x.count(5), NONE);
            due("12 no eldest", x.eldest(), 0);
            due("12 nothing next", x.next(), NONE);
        }
        OutcropAges y = told("events 4; c 7 d; b 52 d; b 2944 c; a 384 c; a 3712 b; a 4225 d;");
        due("12 closed is more", y.left(1, 2, 1), 2944);
        due("12 really is less", y.left(1, 2, 2), 2432);
    }

    private static void promise13() {
        due("13 two events", told("events 2;").many(300), 13);
        due("13 most", told("events 2;").many(12), 12);
        due("13 most is what there is", told("events 2;").many(13), 13);
        due("13 three events", new OutcropAges().many(300), 300);
        due("13 one", told("a same b; b same c;").many(300), 1);
        due("13 none", told("a 1 b; b 1 c; c 1 a;").many(300), 0);
        // Three points, four gaps: two of the seven places, or both ends in one gap.
        due("13 c beside a that meets b", told("a 2 b;").many(300), 21 + 4);
        due("13 c beside a before b", told("a 1 b;").many(300), 36 + 5);
        OutcropAges x = new OutcropAges();
        due("13 least", x.many(1), 1);
        due("13 below", x.many(0), BAD);
        due("13 above", x.many(301), BAD);
        due("13 far below", x.many(MIN), BAD);
        due("13 far above", x.many(MAX), BAD);
    }

    private static void promise14() {
        OutcropAges x = told("events 2;");
        for (int k = 0; k < 13; k++) {
            due("14 in order " + k, x.history(k, 0, 1), k);
            due("14 turned " + k, x.history(k, 1, 0), 12 - k);
        }
        due("14 not so many", x.history(13, 0, 1), NONE);
        due("14 not so many", x.history(299, 1, 0), NONE);
        int[][] bad = {{-1, 0, 1}, {300, 0, 1}, {0, 0, 0}, {0, -1, 0}, {0, 2, 0}, {0, 0, 2}, {MIN, 0, 1}, {MAX, 0, 1}};
        for (int[] b : bad) due("14 BAD " + b[0] + " " + b[1] + " " + b[2], x.history(b[0], b[1], b[2]), BAD);
        OutcropAges y = new OutcropAges();
        long[] all = Model.allHistories(3);
        for (int k = 0; k < 300; k += 23) {
            due("14 first pair " + k, y.history(k, 0, 1), all[k] >> 8 & 15);
            due("14 second pair " + k, y.history(k, 0, 2), all[k] >> 4 & 15);
            due("14 third pair " + k, y.history(k, 1, 2), all[k] & 15);
        }
        due("14 the last that may be asked", y.history(299, 1, 2), all[299] & 15);
        y.adds(0, 1, 1);
        y.adds(1, 1, 0);
        due("14 none", y.history(0, 0, 1), NONE);
    }

    private static void promise15() {
        OutcropAges x = told("events 4; b 1 a; b 2 c; d same c;");
        // b ends as c and d begin, ahead of a's begin; so the first that a can be to c is 4.
        due("15 a's relation to c is the first that can be", x.history(0, 0, 2), 4);
        int[] points = {2, 3, 0, 1, 1, 4, 1, 4};
        for (int i = 0; i < 8; i++) due("15 point " + i, x.point(i / 2, i % 2), points[i]);
        due("15 five points", x.count(5), 5);
        due("15 no such event", x.point(4, 0), BAD);
        due("15 below", x.point(-1, 0), BAD);
        due("15 end below", x.point(0, -1), BAD);
        due("15 end above", x.point(0, 2), BAD);
        due("15 least", x.point(MIN, MAX), BAD);
        x.adds(0, 1, 1);
        due("15 none", x.point(0, 0), NONE);
        due("15 none", x.count(5), NONE);
        due("15 BAD all the same", x.point(4, 0), BAD);
        due("15 all as one", told("a same b; a same c;").count(5), 2);
    }

    private static void promise16() {
        OutcropAges x = told("a before b; b before c; c before a; a same b; b same c;");
        // Without 0: a same b, b same c, c before a quarrel still; without 1, too; then 2, 3, 4 all are needed.
        due("16 quarrel", x.wrong(0), 4 + 8 + 16);
        due("16 blame", x.wrong(1), 0);
        x.takes(4);
        due("16 quarrel", x.wrong(0), 2 + 4 + 8);
        due("16 blame", x.wrong(1), 0);
        x.takes(3);
        due("16 quarrel of three", x.wrong(0), 7);
        due("16 blame of three", x.wrong(1), 7);
        due("16 nothing changes", x.count(1), 3);
        due("16 nothing to undo is new", x.count(4), 2);
        x.takes(0);
        due("16 a history", x.wrong(0), 0);
        due("16 a history", x.wrong(1), 0);
        due("16 below", x.wrong(-1), BAD);
        due("16 above", x.wrong(2), BAD);
        due("16 most", x.wrong(MAX), BAD);
        due("16 no observations", new OutcropAges().wrong(0), 0);
        due("16 eight", told("a1b;a2b;a1b;a2b;a1b;a2b;a1b;a2b;").wrong(0), 128 + 64);
    }

    private static void promise17() {
        due("17 anyone", new OutcropAges().eldest(), 7);
        due("17 five", told("events 5;").eldest(), 31);
        due("17 one", told("a before b; a before c;").eldest(), 1);
        due("17 at one time", told("events 2; a 8 b;").eldest(), 3);
        due("17 not the one that cuts", told("events 4; a cuts b; c cuts d;").eldest(), 10);
        due("17 no history", told("a 1 b; b 1 a;").eldest(), 0);
    }

    private static void promise18() {
        due("18 all open: the first", new OutcropAges().next(), 1);
        due("18 the second", told("a 8190 b;").next(), 2);
        due("18 the third", told("a 8190 b; a 4095 c;").next(), 12);
        due("18 the pair that is open", told("events 5; a same b; a same c; a same d; d before e;").next(), 4);
        due("18 last pair", told("events 5; a same b; a same c; a before d; a before e;").next(), 34);
        due("18 all are known", told("events 2; a 4 b;").next(), NONE);
        due("18 no history", told("a 1 b; b 1 a;").next(), NONE);
    }

    private static void promise19() {
        OutcropAges x = new OutcropAges();
        int[][] bad = {{0, 1, 0}, {-1, 1, 0}, {3, 1, 0}, {0, 1, 3}, {0, 1, -1}, {0, -1, 1}, {0, 13, 1}, {MIN, MAX, 1}};
        for (int[] b : bad) due("19 BAD " + b[0] + " " + b[1] + " " + b[2], x.sees(b[0], b[1], b[2]), BAD);
        due("19 nothing yet", x.count(2), 0);
        for (int i = 1; i <= 6; i++) due("19 sees", x.sees(0, 12, 2), i);
        due("19 FULL", x.sees(0, 12, 2), FULL);
        due("19 BAD ahead of FULL", x.sees(0, 13, 2), BAD);
        due("19 count", x.count(2), 6);
        due("19 no change to undo", x.count(4), 0);
    }

    private static void promise20() {
        OutcropAges x = told("a 2 b;");
        x.sees(0, 5, 1);
        x.sees(0, 6, 1);
        due("20 unseen", x.unseen(), 0);
        due("20 forget", x.forget(), 2);
        due("20 forget again", x.forget(), 0);
        due("20 count", x.count(2), 0);
        due("20 unseen", x.unseen(), 1);
        due("20 room again", x.sees(0, 5, 1), 1);
    }

    private static void promise21() {
        due("21 none", new OutcropAges().unseen(), 0);
        OutcropAges x = told("a 16 b; b 32 c; a 2064 b;");
        due("21 nothing seen", x.unseen(), 7);
        // Without 0: a to b is 4 (of 4, 11); without 1: all of b to c are open, 0 is first; without 2: as with it.
        x.sees(0, 4, 1);
        due("21 a during b always", x.unseen(), 7);
        x.sees(1, 5, 2);
        due("21 b finishes c but for 1", x.unseen(), 5);
        x.sees(2, 7, 1);
        due("21 the same turned", x.unseen(), 5);
        x.turns(2, 24);
        due("21 without 0 a starts b", x.unseen(), 4);
        x.takes(2);
        due("21 without 0 a is before b", x.unseen(), 0);
        OutcropAges y = told("a 1 b; a 2 b; a 4 b;");
        due("21 no history, nothing seen", y.unseen(), 7);
        y.sees(0, 0, 1);
        due("21 no history, something seen", y.unseen(), 0);
        y.takes(2);
        due("21 without 1", y.unseen(), 2);
        y.sees(0, 1, 1);
        due("21 not both", y.unseen(), 0);
    }

    private static void promise22and23() {
        OutcropAges x = told("a 1 b; b 2 c;");
        due("22 below", x.keep(-1), BAD);
        due("22 above", x.keep(2), BAD);
        due("23 below", x.back(-1), BAD);
        due("23 above", x.back(2), BAD);
        due("23 least", x.back(MIN), BAD);
        due("23 none was kept", x.back(1), STATE);
        due("22 keep", x.keep(1), 2);
        due("23 the other was not", x.back(0), STATE);
        x.adds(0, 3, 2);
        x.turns(0, 4);
        x.sees(0, 2, 1);
        x.type(97);
        due("22 keep the other", x.keep(0), 3);
        due("22 keep is no change", x.count(4), 2);
        due("23 back", x.back(1), 2);
        due("23 set", x.observed(0, 2), 1);
        due("23 told anew", x.left(0, 1, 2), 1);
        due("23 nothing can be undone", x.undo(), STATE);
        due("23 seen stays", x.count(2), 1);
        due("23 letters stay", x.count(3), 1);
        due("23 back to the other", x.back(0), 3);
        due("23 set of the other", x.observed(0, 2), 4);
        x.takes(0);
        due("23 an image stays as it was", x.back(0), 3);
        x.takes(0);
        due("22 kept again", x.keep(0), 2);
        x.takes(0);
        due("23 the later one", x.back(0), 2);
        due("23 the later one", x.observed(0, 2), 2);
        due("22 none to keep", new OutcropAges().keep(0), 0);
    }

    private static void promise24() {
        OutcropAges x = told("events 5; a same b; b same c; c same d; d same e;");
        int[] want = {5, 4, 0, 0, 0, 2};
        for (int what = 0; what < 6; what++) due("24 count " + what, x.count(what), want[what]);
        x.takes(3);
        x.sees(0, 0, 1);
        x.type(1);
        x.type(2);
        int[] then = {5, 3, 1, 2, 1, 4};
        for (int what = 0; what < 6; what++) due("24 then " + what, x.count(what), then[what]);
        due("24 below", x.count(-1), BAD);
        due("24 above", x.count(6), BAD);
        due("24 most", x.count(MAX), BAD);
        due("24 least", x.count(MIN), BAD);
        due("24 ten points", told("events 5;").count(5), 10);
    }

    public static void main(String[] args) {
        promise01();
        promise02();
        promise03();
        promise04();
        promise04Words();
        promise04Faults();
        promise04Ends();
        promise05();
        promise06();
        promise07();
        promise08();
        promise09();
        promise10();
        promise11();
        promise12();
        promise12ClosedIsNotReally();
        promise13();
        promise14();
        promise15();
        promise16();
        promise17();
        promise18();
        promise19();
        promise20();
        promise21();
        promise22and23();
        promise24();
        System.out.println(answers + " answers, " + wrong + " of them are not as due");
        if (wrong != 0) System.exit(1);
    }
}
