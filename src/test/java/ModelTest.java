import java.util.Random;

/** Random runs of calls: every answer of the class is that of the model. */
public final class ModelTest {
    private static final String[] WORDS =
        {"before", "covers", "cuts", "outlasts", "within", "with", "touches", "same"};
    private static int wrong = 0;
    private static long answers = 0;

    private final Random random;
    private final OutcropAges real = new OutcropAges();
    private final Model model = new Model();
    private final StringBuilder told = new StringBuilder();
    private int calls = 0;

    private ModelTest(long seed) {
        random = new Random(seed);
    }

    private boolean due(String call, int got, int want) {
        // What an object answers behind its 512th call is free.
        if (calls == 512) return false;
        calls++;
        answers++;
        told.append(call).append(" ").append(got).append("; ");
        if (got == want) return true;
        wrong++;
        System.out.println("answered " + got + ", due is " + want + ", at the end of: " + told);
        return false;
    }

    /** Mostly a number that may stand, sometimes one beside it. */
    private int number(int low, int high) {
        int choice = random.nextInt(40);
        if (choice == 0) return low - 1 - random.nextInt(3);
        if (choice == 1) return high + 1 + random.nextInt(3);
        if (choice == 2 && random.nextInt(5) == 0) return random.nextBoolean() ? Integer.MIN_VALUE : Integer.MAX_VALUE;
        return low + random.nextInt(high - low + 1);
    }

    private int event() {
        return number(0, model.events - 1);
    }

    private int set() {
        int kind = random.nextInt(6);
        if (kind == 0) return number(1, 8191);
        if (kind == 1) return 1 << random.nextInt(13);
        if (kind == 2) return 1 << random.nextInt(13) | 1 << random.nextInt(13);
        if (kind == 3) return 1 << random.nextInt(13) | 1 << random.nextInt(13) | 1 << random.nextInt(13);
        if (kind == 4) return 8191 & ~(1 << random.nextInt(13));
        return random.nextInt(8192) & random.nextInt(8192);
    }

    private boolean types(String text) {
        for (int i = 0; i < text.length(); i++) {
            int letter = text.charAt(i);
            if (!due("type(" + letter + ")", real.type(letter), model.type(letter))) return false;
        }
        return true;
    }

    private String gap() {
        return " ".repeat(Math.max(0, random.nextInt(4) - 2));
    }

    private String item(int events) {
        String x = "" + (char) ('a' + random.nextInt(events));
        String y = "" + (char) ('a' + random.nextInt(events));
        if (x.equals(y) && random.nextInt(8) != 0) y = x.equals("a") ? "b" : "a";
        boolean word = random.nextBoolean();
        String what = word ? WORDS[random.nextInt(8)] : "" + set();
        String between = word ? " " : gap();
        return gap() + x + between + what + between + y + gap() + ";";
    }

    private String text(int events) {
        StringBuilder text = new StringBuilder();
        if (events != 3 || random.nextBoolean()) text.append("events").append(gap()).append(events).append(gap()).append(";");
        int items = random.nextInt(random.nextInt(12) == 0 ? 11 : 7);
        for (int i = 0; i < items; i++) text.append(item(events));
        text.append(gap());
        int spoiled = random.nextInt(3) == 0 ? 1 + random.nextInt(2) : 0;
        for (int i = 0; i < spoiled && text.length() > 0; i++) {
            int at = random.nextInt(text.length());
            int kind = random.nextInt(4);
            if (kind == 0) text.deleteCharAt(at);
            if (kind == 1) text.setLength(at);
            if (kind == 2) text.insert(at, random.nextBoolean() ? "0" : "" + (char) random.nextInt(256));
            if (kind == 3) text.insert(at, item(events));
        }
        return text.length() > 160 ? text.substring(0, 160) : text.toString();
    }

    private boolean tells(int events) {
        if (random.nextInt(10) != 0 && !due("clear()", real.clear(), model.clear())) return false;
        return types(text(events)) && due("tells()", real.tells(), model.tells());
    }

    private boolean changes() {
        int k = number(0, Math.max(0, model.observations.size() - 1));
        int set = set();
        switch (random.nextInt(8)) {
            case 0: case 1: case 2: {
                int x = event(), y = event();
                return due("adds(" + x + ", " + set + ", " + y + ")", real.adds(x, set, y), model.adds(x, set, y));
            }
            case 3: return due("takes(" + k + ")", real.takes(k), model.takes(k));
            case 4: {
                int to = random.nextInt(6) == 0 && k >= 0 && k < model.observations.size() ? model.observed(k, 2) : set;
                return due("turns(" + k + ", " + to + ")", real.turns(k, to), model.turns(k, to));
            }
            case 5: return due("undo()", real.undo(), model.undo());
            case 6: {
                int image = number(0, 1);
                return due("keep(" + image + ")", real.keep(image), model.keep(image));
            }
            default: {
                int image = number(0, 1);
                return random.nextInt(2) == 0 || due("back(" + image + ")", real.back(image), model.back(image));
            }
        }
    }

    /** All that can be asked of what stands. */
    private boolean asksAll() {
        boolean so = true;
        for (int x = 0; x < model.events; x++) {
            for (int y = 0; y < model.events; y++) {
                for (int what = 0; what < 3; what++) {
                    so &= due("left(" + x + ", " + y + ", " + what + ")", real.left(x, y, what), model.left(x, y, what));
                }
            }
            for (int end = 0; end < 2; end++) so &= due("point(" + x + ", " + end + ")", real.point(x, end), model.point(x, end));
        }
        for (int what = 0; what < 6; what++) so &= due("count(" + what + ")", real.count(what), model.count(what));
        so &= due("many(300)", real.many(300), model.many(300));
        so &= due("wrong(0)", real.wrong(0), model.wrong(0));
        so &= due("wrong(1)", real.wrong(1), model.wrong(1));
        so &= due("eldest()", real.eldest(), model.eldest());
        so &= due("next()", real.next(), model.next());
        return so && due("unseen()", real.unseen(), model.unseen());
    }

    private boolean asks() {
        int x = event(), y = event(), what = number(0, 2), most = number(1, 300), r = number(0, 12);
        switch (random.nextInt(14)) {
            case 0: return due("left(" + x + ", " + y + ", " + what + ")", real.left(x, y, what), model.left(x, y, what));
            case 1: return due("many(" + most + ")", real.many(most), model.many(most));
            case 2: case 3: {
                int k = random.nextBoolean() ? most - 1 : number(0, 20);
                return due("history(" + k + ", " + x + ", " + y + ")", real.history(k, x, y), model.history(k, x, y));
            }
            case 4: {
                int end = number(0, 1);
                return due("point(" + x + ", " + end + ")", real.point(x, end), model.point(x, end));
            }
            case 5: {
                int w = number(0, 1);
                return due("wrong(" + w + ")", real.wrong(w), model.wrong(w));
            }
            case 6: return due("eldest()", real.eldest(), model.eldest());
            case 7: return due("next()", real.next(), model.next());
            case 8: {
                int see = random.nextInt(4) == 0 || model.observations.isEmpty() || r < 0 || x == y ? r : Math.max(0, model.history(0, x, y));
                return due("sees(" + x + ", " + see + ", " + y + ")", real.sees(x, see, y), model.sees(x, see, y));
            }
            case 9: return random.nextInt(3) != 0 || due("forget()", real.forget(), model.forget());
            case 10: return due("unseen()", real.unseen(), model.unseen());
            case 11: {
                int w = number(0, 5);
                return due("count(" + w + ")", real.count(w), model.count(w));
            }
            case 12: {
                int k = number(0, 7);
                return due("observed(" + k + ", " + what + ")", real.observed(k, what), model.observed(k, what));
            }
            default: {
                int first = number(0, 8191), second = number(0, 8191);
                return due("turned(" + r + ")", real.turned(r), model.turned(r))
                    && due("composed(" + first + ", " + second + ")", real.composed(first, second), model.composed(first, second));
            }
        }
    }

    private void run(int events, int most) {
        if (!tells(events)) return;
        while (calls < most) {
            int kind = random.nextInt(40);
            boolean so;
            if (kind == 0) so = tells(events);
            else if (kind == 1) so = asksAll();
            else if (kind < 16) so = changes();
            else so = asks();
            if (!so) return;
        }
        asksAll();
    }

    /** Five events with so many observations: all that composing leaves. */
    private void closes() {
        types("events 5;");
        due("tells()", real.tells(), model.tells());
        for (int k = 0; k < 8; k++) {
            int x = random.nextInt(5), y = random.nextInt(5), set = set();
            due("adds(" + x + ", " + set + ", " + y + ")", real.adds(x, set, y), model.adds(x, set, y));
        }
        for (int i = 0; i < 25; i++) {
            due("left(" + i / 5 + ", " + i % 5 + ", 1)", real.left(i / 5, i % 5, 1), model.left(i / 5, i % 5, 1));
        }
    }

    /** A row of tokens, most of which can't stand where they are. */
    private void reads() {
        String[] tokens = {"events", "a", "b", "c", "d", "e", "f", "ab", ";", ";", ";", " ", "  ", "before", "with", "same",
            "0", "1", "2", "5", "6", "07", "8191", "8192", "9999", "10000", "A", "-", "events 5;", "a same b;", "b 7 a;", "c1b"};
        StringBuilder text = new StringBuilder();
        int many = 1 + random.nextInt(14);
        for (int i = 0; i < many; i++) {
            text.append(random.nextInt(4) == 0 ? tokens[random.nextInt(tokens.length)] : tokens[28 + random.nextInt(4)]);
            if (random.nextInt(3) == 0) text.append(' ');
        }
        text.setLength(Math.min(text.length(), 160));
        types(text.toString());
        due("tells()", real.tells(), model.tells());
        for (int what = 0; what < 5; what++) due("count(" + what + ")", real.count(what), model.count(what));
    }

    public static void main(String[] args) {
        int runs = args.length > 0 ? Integer.parseInt(args[0]) : 400;
        long start = args.length > 1 ? Long.parseLong(args[1]) : 0;
        for (int i = 0; i < runs && wrong < 5; i++) {
            new ModelTest(start + i).run(2 + i % 3, 400);
            if (i % 20 == 0) new ModelTest(start + i).run(5, 160);
            for (int j = 0; j < 20; j++) {
                new ModelTest(start + 20 * i + j).closes();
                new ModelTest(start + 20 * i + j).reads();
            }
        }
        System.out.println(answers + " answers of the class and of the model, " + wrong + " of them differ");
        if (wrong != 0) System.exit(1);
    }
}
