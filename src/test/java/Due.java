import java.io.IOException;
import java.nio.file.Files;
import java.nio.file.Path;
import java.util.ArrayList;
import java.util.List;
import java.util.function.Supplier;
import java.util.function.ToIntFunction;

/** What the tests of the boundary cases share: which sentence is looked at, and what is due of it. */
final class Due {
    static final int BAD = -1, STATE = -2, FULL = -3, NONE = -9;
    static final int MIN = Integer.MIN_VALUE, MAX = Integer.MAX_VALUE;

    private static final String DOCUMENT = readDocument();
    private static String words = "";
    private static int sentences = 0;
    private static int answers = 0;
    private static int wrong = 0;

    private Due() { }

    /** The document with single blanks; empty where it is not there: then no words are looked up. */
    private static String readDocument() {
        try {
            return Files.readString(Path.of("../shared/DOC.md")).replaceAll("\\s+", " ");
        } catch (IOException e) {
            return "";
        }
    }

    /** What follows is due by these words; they must stand in the document just so. */
    static void sentence(String quoted) {
        words = quoted;
        sentences++;
        if (!DOCUMENT.isEmpty() && !DOCUMENT.contains(quoted)) {
            wrong++;
            System.out.println("the document does not say: " + quoted);
        }
    }

    static void due(String call, Object got, Object want) {
        answers++;
        if (!got.equals(want)) {
            wrong++;
            System.out.println("'" + words + "': " + call + " answered " + got + ", due is " + want);
        }
    }

    static void end() {
        System.out.println(sentences + " sentences, " + answers + " answers, " + wrong + " of them are not as due");
        if (wrong != 0) System.exit(1);
    }

    static void type(OutcropAges x, String text) {
        for (int i = 0; i < text.length(); i++) x.type(text.charAt(i));
    }

    /** What tells() answers to a text, on a new object. */
    static int tells(String text) {
        OutcropAges x = new OutcropAges();
        type(x, text);
        return x.tells();
    }

    /** An object to which this was told. */
    static OutcropAges told(String text) {
        OutcropAges x = new OutcropAges();
        type(x, text);
        int items = x.tells();
        if (items < 0) due("tells() '" + text + "'", items, "no fault");
        return x;
    }

    /** The text has so many items, and no fault. */
    static void items(String text, int many) {
        due("tells() '" + text + "'", tells(text), many);
    }

    static void fault(String text, int place) {
        due("tells() '" + text + "'", tells(text), -10 - place);
    }

    /** An observation as x, SET, y. */
    static String observation(OutcropAges x, int k) {
        return x.observed(k, 0) + " " + x.observed(k, 2) + " " + x.observed(k, 1);
    }

    static String observations(OutcropAges x) {
        StringBuilder all = new StringBuilder();
        for (int k = 0; k < x.count(1); k++) all.append(k == 0 ? "" : ", ").append(observation(x, k));
        return all.toString();
    }

    /** All POINTS of THE HISTORY: the begin and the end of each event. */
    static String points(OutcropAges x) {
        StringBuilder all = new StringBuilder();
        for (int e = 0; e < x.count(0); e++) all.append(e == 0 ? "" : ", ").append(x.point(e, 0)).append(" ").append(x.point(e, 1));
        return all.toString();
    }

    /** An object in which everything is full: text, observations, seen, undone, images. */
    static OutcropAges full() {
        return fullWith("events 5; e same a;" + " ".repeat(141));
    }

    /** The same with another text, which need not be full. */
    static OutcropAges fullWith(String text) {
        OutcropAges x = told("events 4; a 8190 b; b 4095 c; c with d;");
        x.keep(0);
        x.turns(0, 8188);
        x.keep(1);
        for (int i = 0; i < 6; i++) x.adds(i % 3, 8191 - i, 3);
        x.takes(1);
        x.adds(3, 8000, 1);
        for (int i = 0; i < 6; i++) x.sees(0, i % 2, 1 + i % 3);
        type(x, text);
        return x;
    }

    /** An object with something of everything, and without a HISTORY. */
    static OutcropAges quarrelling() {
        OutcropAges x = told("events 5; a before b; b before c;");
        x.keep(1);
        x.adds(2, 1, 0);
        x.sees(0, 0, 1);
        type(x, "a same b;");
        return x;
    }

    /**
     * All that an object can still tell, with what it would undo, bring back and read. Each part is asked of an
     * object of its own, as what an object answers behind its 512th call is free.
     */
    static List<Integer> allOf(Supplier<OutcropAges> made) {
        List<Integer> all = new ArrayList<>();
        askAll(made.get(), all);
        OutcropAges undone = made.get();
        for (int i = 0; i < 10; i++) {
            all.add(undone.undo());
            askObservations(undone, all);
        }
        for (int image = 0; image < 2; image++) {
            OutcropAges brought = made.get();
            all.add(brought.back(image));
            askObservations(brought, all);
            all.add(brought.undo());
        }
        OutcropAges read = made.get();
        all.add(read.forget());
        all.add(read.tells());
        askAll(read, all);
        all.add(read.clear());
        return all;
    }

    /** Two kinds of objects are alike in all that they can tell. */
    static void alike(String name, Supplier<OutcropAges> used, Supplier<OutcropAges> other) {
        due("all, " + name, allOf(used), allOf(other));
    }

    private static void askObservations(OutcropAges x, List<Integer> all) {
        for (int i = 0; i < 24; i++) all.add(x.observed(i / 3, i % 3));
        all.add(x.unseen());
    }

    private static void askAll(OutcropAges x, List<Integer> all) {
        for (int what = 0; what < 6; what++) all.add(x.count(what));
        askObservations(x, all);
        for (int i = 0; i < 75; i++) all.add(x.left(i % 5, i / 5 % 5, i / 25));
        for (int i = 0; i < 10; i++) all.add(x.point(i / 2, i % 2));
        for (int k = 0; k < 300; k += 50) all.add(x.history(k, 0, 1));
        all.add(x.many(300));
        all.add(x.wrong(0));
        all.add(x.wrong(1));
        all.add(x.eldest());
        all.add(x.next());
    }

    /** The kinds of objects on which calls are tried that change nothing. */
    static List<Supplier<OutcropAges>> kinds() {
        return List.of(OutcropAges::new, Due::full, Due::quarrelling);
    }

    /** An object of a kind, behind a call. */
    static Supplier<OutcropAges> behind(Supplier<OutcropAges> kind, ToIntFunction<OutcropAges> call) {
        return () -> {
            OutcropAges x = kind.get();
            call.applyAsInt(x);
            return x;
        };
    }

    /** A call answers this on objects of three kinds (new, full, quarrelling), and changes nothing of them. */
    static void unchanged(String name, ToIntFunction<OutcropAges> call, int ofNew, int ofFull, int ofQuarrelling) {
        int[] want = {ofNew, ofFull, ofQuarrelling};
        String[] names = {" of a new object", " of a full one", " of one that quarrels"};
        for (int i = 0; i < 3; i++) {
            Supplier<OutcropAges> kind = kinds().get(i);
            due(name + names[i], call.applyAsInt(kind.get()), want[i]);
            alike("behind " + name + names[i], behind(kind, call), kind);
        }
    }

    static void bad(String name, ToIntFunction<OutcropAges> call) {
        unchanged(name, call, BAD, BAD, BAD);
    }
}
