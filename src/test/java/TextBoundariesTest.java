import java.util.function.Supplier;

/** The boundary cases of the text: each sentence of the document's Terms, and of promises 2 to 4, that names one. */
public final class TextBoundariesTest {
    private static final String EIGHT = "a1b;a2b;a3b;a4b;a5b;a6b;a7b;a8b;";

    private static void events() {
        Due.sentence("(2 to 5; 3 at first)");
        Due.due("count(0) at first", new OutcropAges().count(0), 3);
        Due.due("left(2, 0, 0) at first", new OutcropAges().left(2, 0, 0), 8191);
        Due.due("left(3, 0, 0) at first", new OutcropAges().left(3, 0, 0), Due.BAD);
        for (int n = 2; n <= 5; n++) {
            OutcropAges x = Due.told("events " + n + ";");
            Due.due("count(0) of " + n, x.count(0), n);
            Due.due("the last of " + n, x.left(n - 1, 0, 0), 8191);
            Due.due("one behind the last of " + n, x.left(n, 0, 0), Due.BAD);
        }
        Due.fault("events 0;", 7);
        Due.fault("events 1;", 7);
        Due.fault("events 6;", 7);
        Due.fault("events 7;", 7);
        Due.fault("events 22;", 7);
    }

    private static void length() {
        Due.sentence("They are a text (160 letters at most), told letter by letter");
        String text = "events 5; " + EIGHT;
        Due.items(text + " ".repeat(160 - text.length()), 9);
        OutcropAges x = new OutcropAges();
        Due.type(x, " ".repeat(151) + "a same b;");
        Due.due("an item up to the last letter", x.tells(), 1);
        Due.due("its observation", Due.observations(x), "0 64 1");
        Due.type(x, " ".repeat(152) + "a same b;");
        Due.due("the letter behind the last is not there", x.tells(), -10 - 160);
    }

    private static void blanks() {
        Due.sentence("blanks (32) between TOKENS");
        Due.items("   a   same   b   ;   ", 1);
        for (int letter = 0; letter < 256; letter++) {
            boolean row = letter >= 'a' && letter <= 'z';
            int want = letter == 32 ? 1 : letter == ';' ? -10 - 9 : row ? -10 - 7 : -10 - 8;
            Due.due("tells() with letter " + letter + " behind y", Due.tells("a same b" + (char) letter + ";"), want);
            Due.due("tells() with letter " + letter + " ahead", Due.tells((char) letter + "a same b;"), letter == 32 ? 1 : -10);
        }
    }

    private static void itemsEnd() {
        Due.sentence("ITEMS, each ended by ;");
        Due.items("a same b;", 1);
        Due.items("a same b;b same c;", 2);
        Due.fault("a same b", 8);
        Due.fault("a same b b same c;", 9);
        Due.fault("events 3 a same b;", 9);
        Due.fault(";", 0);
        Due.fault("a same b;;", 9);
        Due.fault("events 3;;", 9);
    }

    private static void eventsFirst() {
        Due.sentence("events N (the first of all, if it is told)");
        Due.items("events 2;", 1);
        Due.items("a same c;", 1);
        Due.items("events 5; a same e;", 2);
        OutcropAges x = Due.told("events 5;");
        Due.type(x, "a same c;");
        Due.due("tells() without events", x.tells(), 1);
        Due.due("events if they are not told", x.count(0), 3);
        Due.sentence("events behind another ITEM");
        Due.fault("a same b; events 3;", 10);
        Due.fault("a same b;events 3;", 9);
        Due.fault("events 3;events 3;", 9);
        Due.fault("events 3; events 4;", 10);
        Due.fault("events 3; a 1 b; events 3;", 17);
    }

    private static void observations() {
        Due.sentence("x WORD y (x, y each one letter, a: 0, b: 1 ..; the next OBSERVATION)");
        OutcropAges x = Due.told("events 5; a same e; e before a; b touches d; d 5 c;");
        Due.due("observations", Due.observations(x), "0 64 4, 4 3 0, 1 2050 3, 3 5 2");
        Due.fault("aa same b;", 0);
        Due.fault("a same bb;", 7);
        Due.fault("ab same c;", 0);
        Due.fault("0 same b;", 0);
        Due.fault("a same 1;", 7);
        Due.sentence("x N y (the same by a SET, 1 .. 8191)");
        Due.due("the least", Due.observations(Due.told("a 1 b;")), "0 1 1");
        Due.due("the most", Due.observations(Due.told("b 8191 a;")), "1 8191 0");
        Due.fault("a 0 b;", 2);
        Due.fault("a 8192 b;", 2);
        Due.fault("a 8193 b;", 2);
        Due.fault("a 9999 b;", 2);
        Due.sentence("(8 at most): an EVENT x, a SET, another EVENT y");
        Due.items(EIGHT, 8);
        Due.due("the eighth", Due.observation(Due.told(EIGHT), 7), "0 8 1");
        Due.items("events 5;" + EIGHT, 9);
        Due.fault(EIGHT + "a9b;", 32);
    }

    private static void tokens() {
        Due.sentence("TOKENS: rows of letters a .. z, NUMBERS (rows of figures) and ;");
        Due.fault("azaz same b;", 0);
        Due.fault("a` same b;", 1);
        Due.fault("a{ same b;", 1);
        Due.fault("aA same b;", 1);
        Due.fault("aZ same b;", 1);
        Due.fault("a 10/ b;", 4);
        Due.fault("a 10: b;", 4);
        Due.fault("a 10< b;", 4);
        Due.due("all figures", Due.observations(Due.told("a 1234 b; a 5678 b; a 90 b;")), "0 1234 1, 0 5678 1, 0 90 1");
        Due.sentence("(there need be blanks just where two would run together)");
        Due.items("events2;a1b;b8191a;", 3);
        Due.items("a1b;b same c;c2a;", 3);
        Due.fault("asame b;", 0);
        Due.fault("a sameb;", 2);
        Due.fault("events3a1b;", 7);
        Due.fault("events 3 3;", 9);
        Due.fault("a 1 2 b;", 4);
        Due.fault("a with in b;", 7);
        Due.items("a within b;", 1);
        Due.fault("event s 3;", 0);
        Due.fault("eventsb 3;", 0);
    }

    private static void noItems() {
        Due.sentence("No ITEMS are no FAULT.");
        Due.items("", 0);
        Due.items(" ", 0);
        Due.items(" ".repeat(160), 0);
        OutcropAges x = Due.told("events 5; a same e;");
        Due.due("tells() of nothing", x.tells(), 0);
        Due.due("events of nothing", x.count(0), 3);
        Due.due("observations of nothing", x.count(1), 0);
    }

    private static void cannotStand() {
        Due.sentence("FAULT: the place of the first letter of the first TOKEN that can't stand there");
        String[] tokens = {"events", "a", "same", "2", ";", "#"};
        String[] ahead = {"", "events ", "events 2 ", "events 2 ; ", "a ", "a same ", "a same b ", "b 7 "};
        // By the rows of tokens: which of them can stand behind what is ahead.
        boolean[][] stands = {
            {true, true, false, false, false, false}, {false, false, false, true, false, false},
            {false, false, false, false, true, false}, {false, true, false, false, false, false},
            {false, false, true, true, false, false}, {false, false, false, false, false, false},
            {false, false, false, false, true, false}, {false, true, false, false, false, false}};
        for (int i = 0; i < ahead.length; i++) {
            for (int j = 0; j < tokens.length; j++) {
                String text = ahead[i] + tokens[j];
                boolean ends = stands[i][j] && tokens[j].equals(";");
                Due.due("tells() '" + text + "'", Due.tells(text), ends ? 1 : -10 - (stands[i][j] ? text.length() : ahead[i].length()));
                Due.due("tells() '  " + text + " '", Due.tells("  " + text + " "),
                    ends ? 1 : -10 - (stands[i][j] ? text.length() + 3 : ahead[i].length() + 2));
            }
        }
        Due.fault("a tame b; a 0 b; ;", 2);
        Due.fault("a same a; # 01", 7);
        Due.fault("sames # 01 10000", 0);
    }

    private static void noEvent() {
        Due.sentence("a letter of no EVENT");
        for (int n = 2; n <= 5; n++) {
            char last = (char) ('a' + n - 1);
            char none = (char) ('a' + n);
            Due.items("events " + n + ";" + last + " same a;a same " + last + ";", 3);
            Due.fault("events " + n + ";" + none + " same a;", 9);
            Due.fault("events " + n + ";a same " + none + ";", 16);
        }
        Due.items("c same a;", 1);
        Due.fault("d same a;", 0);
        Due.fault("a same d;", 7);
        Due.fault("z same a;", 0);
        Due.sentence("y that is x");
        for (char e = 'a'; e <= 'e'; e++) Due.fault("events 5; " + e + " same " + e + ";", 17);
        Due.fault("a 64 a;", 5);
        Due.fault("a same b;a same a;", 16);
    }

    private static void noWord() {
        Due.sentence("a row of letters that is none of these");
        String[] rows = {"befor", "beforee", "cover", "coverss", "cut", "cutss", "outlast", "outlastss", "withi", "withinn",
            "wit", "withh", "touche", "touchess", "sam", "samee", "event", "eventss", "same".repeat(20), "x", "tame"};
        for (String row : rows) {
            Due.fault("a " + row + " b;", 2);
            Due.fault(row + " 3;", 0);
        }
        Due.fault("a events b;", 2);
        Due.fault("a b b;", 2);
        Due.fault("same same b;", 0);
        Due.fault("a same same;", 7);
    }

    private static void ninth() {
        Due.sentence("a ninth OBSERVATION's x");
        Due.fault(EIGHT + "a", 32);
        Due.fault(EIGHT + "  c same a;", 34);
        Due.fault(EIGHT + "#", 32);
        Due.fault("events 2;" + EIGHT + "b 1 a;", 41);
        Due.fault(EIGHT + "events 3;", 32);
        Due.items(EIGHT + "   ", 8);
    }

    private static void numbers() {
        Due.sentence("a NUMBER beyond what it may be");
        Due.fault("events 6;", 7);
        Due.fault("events 1;", 7);
        Due.fault("a 8192 b;", 2);
        Due.fault("a same b; b 0 a;", 12);
        Due.sentence("a NUMBER above 9999");
        Due.fault("a 9999 b;", 2);
        Due.fault("a 10000 b;", 2);
        Due.fault("a 10001 b;", 2);
        Due.fault("a 81910 b;", 2);
        Due.fault("events 10003;", 7);
        // These are 1 and 3 to those who keep 32 or 64 bits.
        Due.fault("a 4294967297 b;", 2);
        Due.fault("a 18446744073709551617 b;", 2);
        Due.fault("events 4294967299;", 7);
        Due.fault("a " + "9".repeat(150) + " b;", 2);
        Due.fault("a same b; 10000", 10);
        Due.sentence("with a 0 ahead of others");
        Due.fault("a 01 b;", 2);
        Due.fault("a 00 b;", 2);
        Due.fault("a 0000000001 b;", 2);
        Due.fault("a 010 b;", 2);
        Due.fault("events 03;", 7);
        Due.due("a 0 behind others", Due.observations(Due.told("a 10 b; a 100 b; a 101 b;")), "0 10 1, 0 100 1, 0 101 1");
    }

    private static void otherLetters() {
        Due.sentence("of any other letter");
        for (int letter = 0; letter < 256; letter++) {
            boolean known = letter == 32 || letter == ';' || letter >= 'a' && letter <= 'z' || letter >= '0' && letter <= '9';
            if (known) continue;
            String other = "" + (char) letter;
            Due.fault(other, 0);
            Due.fault("  " + other + "a same b;", 2);
            Due.fault("a" + other + "same b;", 1);
            Due.fault("a sa" + other + "me b;", 2);
            Due.fault("a 1" + other + "2 b;", 3);
            Due.fault("a same b;" + other, 9);
            Due.fault("events " + other + "3;", 7);
        }
    }

    private static void endsEarly() {
        Due.sentence("the text's length, if it ends too early");
        String text = "events 5; a same b; c 7 d ;";
        // Up to which lengths the text breaks off in a row that is none; where that row is.
        int[][] broken = {{1, 5, 0}, {13, 15, 12}};
        int[] whole = {0, 9, 10, 19, 20, 27};
        int[] items = {0, 1, 1, 2, 2, 3};
        for (int n = 0; n <= text.length(); n++) {
            int want = -10 - n;
            for (int[] b : broken) if (n >= b[0] && n <= b[1]) want = -10 - b[2];
            for (int i = 0; i < whole.length; i++) if (n == whole[i]) want = items[i];
            Due.due("tells() '" + text.substring(0, n) + "'", Due.tells(text.substring(0, n)), want);
        }
        Due.fault("a ", 2);
        Due.fault("a same    ", 10);
        Due.fault(" ".repeat(159) + "a", 160);
        Due.fault("a" + " ".repeat(159), 160);
    }

    private static void type() {
        Due.sentence("A letter (0 .. 255) comes to THE TEXT: how many it has. BAD; FULL: 160.");
        OutcropAges x = new OutcropAges();
        Due.due("type(0)", x.type(0), 1);
        Due.due("type(255)", x.type(255), 2);
        x.clear();
        for (int i = 1; i <= 159; i++) Due.due("type(32), the " + i + "-th", x.type(32), i);
        Due.due("the last", x.type(255), 160);
        Due.due("one more", x.type(32), Due.FULL);
        Due.due("and one more", x.type(0), Due.FULL);
        Due.due("the last is still the last", x.tells(), -10 - 159);
        for (int letter : new int[] {-1, 256, 288, -224, Due.MIN, Due.MAX}) Due.bad("type(" + letter + ")", y -> y.type(letter));
        Due.due("type(0) of a full one", Due.full().type(0), Due.FULL);
        Due.alike("of a full one, behind a letter", Due.behind(Due::full, y -> y.type(97)), Due::full);
    }

    private static void clear() {
        Due.sentence("THE TEXT is empty: how many letters it had.");
        OutcropAges x = new OutcropAges();
        Due.due("clear() of none", x.clear(), 0);
        Due.type(x, " ".repeat(170));
        Due.due("clear() of a full one", x.clear(), 160);
        Due.due("clear() again", x.clear(), 0);
        Due.due("the first letter again", x.type(97), 1);
        Due.due("clear() of one", x.clear(), 1);
        Due.due("tells() of nothing", x.tells(), 0);
        Due.alike("behind clear(), as without a text", Due.behind(Due::full, OutcropAges::clear), () -> Due.fullWith(""));
    }

    private static void tells() {
        Due.sentence("THE TEXT tells all anew, and is empty then: how many ITEMS.");
        OutcropAges x = Due.full();
        Due.due("tells()", x.tells(), 2);
        Due.due("letters", x.count(3), 0);
        Due.due("events", x.count(0), 5);
        Due.due("observations", Due.observations(x), "4 64 0");
        Due.due("the first letter again", x.type(32), 1);
        Due.items("events 5;" + EIGHT, 9);
        Due.sentence("-10 less FAULT: nothing changes.");
        Due.due("the least fault", Due.tells("#"), -10);
        Due.due("the last fault", Due.tells("a" + " ".repeat(159)), -170);
        for (Supplier<OutcropAges> kind : Due.kinds()) {
            Supplier<OutcropAges> faulty = Due.behind(kind, y -> {
                int letters = y.clear();
                Due.type(y, "events 2; b same a; events 2;");
                return letters;
            });
            Due.due("tells() of a fault", faulty.get().tells(), -30);
            Due.alike("behind tells() of a fault", Due.behind(faulty, OutcropAges::tells), faulty);
        }
        OutcropAges mended = new OutcropAges();
        Due.type(mended, "a same b");
        Due.due("a text that ends too early", mended.tells(), -18);
        mended.type(';');
        Due.due("the text goes on", mended.tells(), 1);
    }

    private static void readAnew() {
        Due.sentence("(Read anew: as told; nothing can be UNDONE, nothing SEEN, IMAGES are gone.)");
        for (String text : new String[] {"", "events 4; a 8190 b;", "events 2;"}) {
            Due.alike("read anew '" + text + "'", Due.behind(() -> Due.fullWith(text), OutcropAges::tells), () -> Due.told(text));
        }
        OutcropAges x = Due.full();
        x.tells();
        Due.due("undo()", x.undo(), Due.STATE);
        Due.due("count(4)", x.count(4), 0);
        Due.due("count(2)", x.count(2), 0);
        Due.due("forget()", x.forget(), 0);
        Due.due("back(0)", x.back(0), Due.STATE);
        Due.due("back(1)", x.back(1), Due.STATE);
    }

    public static void main(String[] args) {
        events();
        length();
        blanks();
        itemsEnd();
        eventsFirst();
        observations();
        tokens();
        noItems();
        cannotStand();
        noEvent();
        noWord();
        ninth();
        numbers();
        otherLetters();
        endsEarly();
        type();
        clear();
        tells();
        readAnew();
        Due.end();
    }
}
