import java.util.ArrayList;
import java.util.List;
import java.util.regex.Matcher;
import java.util.regex.Pattern;

/** Reads a text for the model: first all tokens, then what may stand at each. */
final class ModelText {
    private static final Pattern TOKEN = Pattern.compile("[a-z]+|[0-9]+|[^ ]", Pattern.DOTALL);
    private static final List<String> WORDS =
        List.of("before", "covers", "cuts", "outlasts", "within", "with", "touches", "same");
    private static final int[] SETS = new int[8];

    static {
        // The words' sets by what they say of two intervals.
        for (int i = 0; i < 6 * 6 * 6 * 6; i++) {
            int a = i % 6, b = i / 6 % 6, c = i / 36 % 6, d = i / 216;
            if (a >= b || c >= d) continue;
            int r = Model.relation(a, b, c, d);
            boolean[] so = {b <= c, a >= d, a > c, b > d, a >= c && b <= d, a < d && c < b, b == c || a == d,
                a == c && b == d};
            for (int w = 0; w < 8; w++) if (so[w]) SETS[w] |= 1 << r;
        }
    }

    int fault = -1;
    int items;
    int events = 3;
    List<Model.Observation> observations = new ArrayList<>();

    ModelText(String text) {
        List<String> tokens = new ArrayList<>();
        List<Integer> places = new ArrayList<>();
        Matcher m = TOKEN.matcher(text);
        while (m.find()) {
            tokens.add(m.group());
            places.add(m.start());
        }
        // 0: an item may begin, 1: the number of events, 2: a word or a set, 3: y, 4: the end of an item
        int state = 0, x = -1, set = -1;
        for (int i = 0; i < tokens.size(); i++) {
            String token = tokens.get(i);
            int event = token.length() == 1 && token.charAt(0) >= 'a' && token.charAt(0) < 'a' + events
                ? token.charAt(0) - 'a' : -1;
            int number = token.matches("0|[1-9][0-9]{0,3}") ? Integer.parseInt(token) : -1;
            boolean stands = false;
            if (state == 0 && token.equals("events")) {
                stands = i == 0;
                state = 1;
            } else if (state == 0) {
                stands = event >= 0 && observations.size() < 8;
                x = event;
                state = 2;
            } else if (state == 1) {
                stands = number >= 2 && number <= 5;
                events = number;
                state = 4;
            } else if (state == 2) {
                set = WORDS.contains(token) ? SETS[WORDS.indexOf(token)] : number;
                stands = set >= 1 && set <= 8191;
                state = 3;
            } else if (state == 3) {
                stands = event >= 0 && event != x;
                if (stands) observations.add(new Model.Observation(x, set, event));
                state = 4;
            } else {
                stands = token.equals(";");
                items++;
                state = 0;
            }
            if (!stands) {
                fault = places.get(i);
                return;
            }
        }
        if (state != 0) fault = text.length();
    }
}
