import java.io.IOException;
import java.io.PrintWriter;
import java.io.StringWriter;
import java.lang.management.ManagementFactory;
import java.lang.reflect.Constructor;
import java.lang.reflect.Field;
import java.lang.reflect.Method;
import java.lang.reflect.Modifier;
import java.nio.file.Files;
import java.nio.file.Path;
import java.util.ArrayList;
import java.util.Arrays;
import java.util.List;
import java.util.Map;
import java.util.Set;
import java.util.TreeMap;
import java.util.TreeSet;
import java.util.regex.Matcher;
import java.util.regex.Pattern;
import java.util.spi.ToolProvider;

/** The rules of LANGUAGE.md that can be looked at from outside, and that no call makes an object. */
public final class RulesTest {
    private static final Path SOURCE = Path.of("src/main/java/OutcropAges.java");
    private static int wrong = 0;

    private static void rule(String what, boolean holds) {
        if (!holds) {
            wrong++;
            System.out.println("broken: " + what);
        }
    }

    private static void face() {
        Set<String> due = new TreeSet<>(List.of(
            "type 1", "clear 0", "tells 0", "observed 2", "adds 3", "takes 1", "turns 2", "undo 0", "turned 1",
            "composed 2", "left 3", "many 1", "history 3", "point 2", "wrong 1", "eldest 0", "next 0", "sees 3",
            "forget 0", "unseen 0", "keep 1", "back 1", "count 1"));
        Set<String> has = new TreeSet<>();
        Set<String> names = new TreeSet<>();
        for (Method m : OutcropAges.class.getDeclaredMethods()) {
            if (Modifier.isPublic(m.getModifiers())) {
                has.add(m.getName() + " " + m.getParameterCount());
                names.add(m.getName());
                rule("int of ints: " + m, m.getReturnType() == int.class && !Modifier.isStatic(m.getModifiers())
                    && Arrays.stream(m.getParameterTypes()).allMatch(t -> t == int.class));
            } else {
                rule("private: " + m, Modifier.isPrivate(m.getModifiers()) || m.isSynthetic());
            }
        }
        rule("the face's methods " + has, has.equals(due));
        rule("the class is public and final", Modifier.isPublic(OutcropAges.class.getModifiers())
            && Modifier.isFinal(OutcropAges.class.getModifiers()));
        rule("one constructor", OutcropAges.class.getDeclaredConstructors().length == 1);
        for (Class<?> c : classes()) {
            for (Method m : c.getDeclaredMethods()) {
                rule("no other method has a face's name: " + m, c == OutcropAges.class && Modifier.isPublic(m.getModifiers())
                    || !names.contains(m.getName()));
            }
        }
    }

    private static List<Class<?>> classes() {
        List<Class<?>> all = new ArrayList<>(List.of(OutcropAges.class));
        all.addAll(Arrays.asList(OutcropAges.class.getDeclaredClasses()));
        return all;
    }

    private static void members() {
        Set<String> constants = Set.of("BAD", "STATE", "FULL", "NONE");
        rule("at most twelve classes", classes().size() <= 12);
        for (Class<?> c : classes()) {
            rule("static: " + c, c == OutcropAges.class || Modifier.isStatic(c.getModifiers()));
            int fields = 0;
            for (Field f : c.getDeclaredFields()) {
                int is = f.getModifiers();
                rule("private: " + f, Modifier.isPrivate(is) || c == OutcropAges.class && constants.contains(f.getName()));
                rule("static is final: " + f, !Modifier.isStatic(is) || Modifier.isFinal(is));
                rule("static is a constant: " + f, !Modifier.isStatic(is)
                    || Set.of(int.class, long.class, boolean.class, char.class, String.class, int[].class).contains(f.getType()));
                if (!Modifier.isStatic(is)) fields++;
            }
            rule("at most twenty fields: " + c, fields <= 20);
            for (Method m : c.getDeclaredMethods()) rule("at most seven parameters: " + m, m.getParameterCount() <= 7);
            for (Constructor<?> m : c.getDeclaredConstructors()) rule("at most seven: " + m, m.getParameterCount() <= 7);
        }
    }

    private static void source() throws IOException {
        String text = Files.readString(SOURCE);
        rule("signs 1 to 127", text.chars().allMatch(c -> c > 0 && c < 128));
        String code = text.replaceAll("(?s)/\\*.*?\\*/", "").replaceAll("//[^\n]*", "").replaceAll("\"[^\"\n]*\"", "\"\"");
        String[] forbidden = {"\\bthrow\\b", "\\bthrows\\b", "\\btry\\b", "\\bcatch\\b", "\\bsynchronized\\b", "\\bassert\\b",
            "->", "::", "\\bimport\\b", "\\bpackage\\b", "\\bstatic\\s*\\{", "Exact\\b", "\\bObject\\b", "\\bThread\\b", "\\bRandom\\b",
            "\\bhashCode\\b", "\\btoString\\b", "\\bequals\\b", "\\bprotected\\b", "\\bvar\\b"};
        for (String f : forbidden) rule("no " + f, !Pattern.compile(f).matcher(code).find());
        Matcher library = Pattern.compile("\\b(Math|Integer|Long|System|Arrays)\\.(\\w+)").matcher(code);
        Set<String> allowed = Set.of("Math.max", "Math.min", "Integer.bitCount", "System.arraycopy");
        while (library.find()) rule("library: " + library.group(), allowed.contains(library.group()));
        methodsAreShort(text.split("\n"));
    }

    private static void methodsAreShort(String[] lines) {
        int start = -1;
        String indent = "";
        for (int i = 0; i < lines.length; i++) {
            Matcher opens = Pattern.compile("^( {4}| {8})\\S.*\\) \\{$").matcher(lines[i]);
            if (start < 0 && opens.matches()) {
                start = i;
                indent = opens.group(1);
            } else if (start >= 0 && lines[i].equals(indent + "}")) {
                rule("at most sixty lines: " + lines[start].trim(), i - start + 1 <= 60);
                start = -1;
            }
        }
        rule("every method ends", start < 0);
    }

    /** Which methods each method calls, by the bytecode; names alone, as no class has two methods of one name. */
    private static Map<String, Set<String>> calls() {
        Map<String, Set<String>> calls = new TreeMap<>();
        for (Class<?> c : classes()) {
            StringWriter out = new StringWriter();
            ToolProvider.findFirst("javap").orElseThrow().run(new PrintWriter(out), new PrintWriter(System.out),
                "-c", "-p", "-cp", System.getProperty("java.class.path"), c.getName());
            String caller = "";
            for (String line : out.toString().split("\n")) {
                Matcher method = Pattern.compile("^  \\S.*?([\\w$]+)\\(.*\\);$").matcher(line);
                Matcher call = Pattern.compile("invoke\\w+.*// (?:Interface)?Method (?:([\\w$/]+)\\.)?\"?([\\w<>]+)\"?:").matcher(line);
                if (method.find()) {
                    String name = method.group(1).equals(c.getName()) ? "<init>" : method.group(1);
                    caller = c.getName() + "." + name;
                    calls.putIfAbsent(caller, new TreeSet<>());
                } else if (call.find()) {
                    calls.get(caller).add((call.group(1) == null ? c.getName() : call.group(1)) + "." + call.group(2));
                }
            }
        }
        return calls;
    }

    private static int depth(String method, Map<String, Set<String>> calls, int open) {
        rule("only search calls itself, but " + method, open < 50);
        int most = 0;
        for (String called : calls.getOrDefault(method, Set.of())) {
            if (!called.equals(method) && open < 50) most = Math.max(most, depth(called, calls, open + 1));
        }
        return most + 1;
    }

    private static void depths() {
        Map<String, Set<String>> calls = calls();
        rule("all methods are found", calls.size() > 60);
        for (String method : calls.keySet()) {
            int depth = depth(method, calls, 0);
            rule("at most eight deep, but " + depth + ": " + method, depth <= 8);
        }
    }

    /** Calls of every kind, on a net of five that has to be looked through. */
    private static int use(OutcropAges x) {
        int sum = 0;
        String text = "events 5; a 5121 b; c with d; e 7000 a; b cuts e;";
        for (int i = 0; i < text.length(); i++) sum += x.type(text.charAt(i));
        sum += x.tells() + x.adds(0, 8190, 3) + x.many(300) + x.left(0, 1, 2) + x.left(1, 2, 1) + x.left(3, 4, 0);
        sum += x.history(299, 0, 4) + x.point(2, 1) + x.count(5) + x.wrong(0) + x.eldest() + x.next() + x.sees(0, 1, 2);
        sum += x.unseen() + x.keep(0) + x.adds(0, 1, 1) + x.adds(1, 1, 0) + x.wrong(0) + x.wrong(1) + x.unseen() + x.undo();
        sum += x.turns(0, 9) + x.takes(1) + x.back(0) + x.forget() + x.composed(77, 99) + x.turned(3) + x.type(65) + x.tells();
        return sum + x.clear();
    }

    private static void room() {
        com.sun.management.ThreadMXBean threads = (com.sun.management.ThreadMXBean) ManagementFactory.getThreadMXBean();
        long me = Thread.currentThread().getId();
        OutcropAges x = new OutcropAges();
        int first = use(x);
        threads.getThreadAllocatedBytes(me);
        long none = threads.getThreadAllocatedBytes(me);
        none = threads.getThreadAllocatedBytes(me) - none;
        long ahead = threads.getThreadAllocatedBytes(me);
        int again = use(x);
        long made = threads.getThreadAllocatedBytes(me) - ahead - none;
        rule("the same calls give the same answers", first == again);
        rule("no call makes an object, but " + made + " bytes were made", made <= 0);
        long before = threads.getThreadAllocatedBytes(me);
        OutcropAges other = new OutcropAges();
        long size = threads.getThreadAllocatedBytes(me) - before - none;
        rule("an object takes little room, not " + size + " bytes", size < 30000 && other.count(0) == 3);
    }

    public static void main(String[] args) throws IOException {
        face();
        members();
        source();
        depths();
        room();
        System.out.println(wrong == 0 ? "the rules hold" : wrong + " rules are broken");
        if (wrong != 0) System.exit(1);
    }
}
