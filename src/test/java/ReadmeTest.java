import java.io.IOException;
import java.lang.reflect.InvocationTargetException;
import java.lang.reflect.Method;
import java.lang.reflect.Modifier;
import java.nio.file.Files;
import java.nio.file.Path;
import java.util.Arrays;
import java.util.regex.Matcher;
import java.util.regex.Pattern;

/** The example of README.md answers what it says there, and every call of the class is named there. */
public final class ReadmeTest {
    private static int wrong = 0;

    private static void due(String what, boolean holds) {
        if (!holds) {
            wrong++;
            System.out.println("README.md: " + what);
        }
    }

    private static Method methodOf(String name) {
        for (Method m : OutcropAges.class.getDeclaredMethods()) {
            if (m.getName().equals(name) && Modifier.isPublic(m.getModifiers())) return m;
        }
        throw new IllegalArgumentException("README.md: there is no call " + name);
    }

    private static int call(OutcropAges ages, String name, String numbers) throws IllegalAccessException, InvocationTargetException {
        Object[] arguments = numbers.isEmpty() ? new Object[0]
            : Arrays.stream(numbers.split(", ")).map(Integer::valueOf).toArray();
        return (int) methodOf(name).invoke(ages, arguments);
    }

    private static void example(String readme) throws IllegalAccessException, InvocationTargetException {
        String code = readme.substring(readme.indexOf("```java\n"), readme.indexOf("\n```\n"));
        Matcher text = Pattern.compile("String text = \"(.*)\";").matcher(code);
        due("a text is told", text.find());
        OutcropAges ages = new OutcropAges();
        for (char letter : text.group(1).toCharArray()) ages.type(letter);
        Matcher line = Pattern.compile("(?m)^ages\\.(\\w+)\\((.*?)\\); +// (-?\\d+):").matcher(code);
        int lines = 0;
        while (line.find()) {
            int got = call(ages, line.group(1), line.group(2));
            due(line.group() + " it answered " + got, got == Integer.parseInt(line.group(3)));
            lines++;
        }
        due("each line of calls has its answer", lines == code.split("\nages\\.").length - 1 && lines > 10);
    }

    public static void main(String[] args) throws IOException, IllegalAccessException, InvocationTargetException {
        String readme = Files.readString(Path.of("README.md"));
        example(readme);
        for (Method m : OutcropAges.class.getDeclaredMethods()) {
            if (Modifier.isPublic(m.getModifiers())) due(m.getName() + " is not told of", readme.contains("`" + m.getName() + "`"));
        }
        System.out.println(wrong == 0 ? "README.md is right" : wrong + " things are wrong");
        if (wrong != 0) System.exit(1);
    }
}
