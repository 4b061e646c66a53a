import java.io.IOException;
import java.lang.reflect.InvocationTargetException;
import java.lang.reflect.Method;
import java.lang.reflect.Modifier;
import java.nio.file.Files;
import java.nio.file.Path;
import java.util.List;
import java.util.regex.Matcher;
import java.util.regex.Pattern;
import java.util.stream.Stream;

/** What README.md says: its calls are given to a hall one behind another, and answer as they do there. */
public final class ReadmeTests {
    private static final Path README = Path.of("README.md");
    private static final Path TESTS = Path.of("src/test/java");
    private static final Pattern FED = Pattern.compile("^feed\\(hall, \"(.*)\"\\);$");
    private static final Pattern CALLED = Pattern.compile("^hall\\.(\\w+)\\((.*)\\);\\s+// (-?\\d+): .*$");
    private static final Pattern ROW = Pattern.compile("(?m)^\\| [^|`]+ \\| (.*) \\|$");

    public static void main(String[] args) throws IOException, ReflectiveOperationException {
        String page = Files.readString(README).replace("\r", "");
        example(page);
        callsNamed(page);
        testsNamed(page);
        Check.finish("ReadmeTests");
    }

    private static void example(String page) throws ReflectiveOperationException {
        int begun = page.indexOf("HallAnswers hall = new HallAnswers();");
        Check.due("an example", begun < 0 ? 0 : 1, 1);
        if (begun < 0) {
            return;
        }
        List<String> lines = page.substring(begun).split("```")[0].lines().toList();
        HallAnswers hall = new HallAnswers();
        int given = 0;
        for (String line : lines.subList(1, lines.size())) {
            Matcher fed = FED.matcher(line);
            Matcher called = CALLED.matcher(line);
            if (fed.matches()) {
                feed(hall, fed.group(1));
            } else if (called.matches()) {
                Check.due(line, answer(hall, called.group(1), called.group(2)), Long.parseLong(called.group(3)));
                given++;
            } else {
                Check.due("a call and its answer: " + line, 0, 1);
            }
        }
        Check.due("calls of the example", Math.min(given, 10), 10);
    }

    /** As README.md has it. */
    private static void feed(HallAnswers hall, String text) {
        for (int at = 0; at < text.length(); at += 8) {
            long eight = 0;
            for (int i = at; i < at + 8; i++) {
                eight = eight << 8 | (i < text.length() ? text.charAt(i) : ' ');
            }
            hall.feed(eight);
        }
    }

    private static int answer(HallAnswers hall, String name, String numbers) throws ReflectiveOperationException {
        Object[] given = numbers.isEmpty() ? new Object[0] : Stream.of(numbers.split(", ")).map(Integer::valueOf).toArray();
        for (Method method : HallAnswers.class.getMethods()) {
            if (method.getName().equals(name) && method.getParameterCount() == given.length) {
                try {
                    return (Integer) method.invoke(hall, given);
                } catch (InvocationTargetException e) {
                    throw new IllegalStateException("a call of README.md threw: " + name, e.getCause());
                }
            }
        }
        Check.due("there is a call " + name + "(" + numbers + ")", 0, 1);
        return 0;
    }

    private static void callsNamed(String page) {
        StringBuilder rows = new StringBuilder();
        Matcher row = ROW.matcher(page);
        while (row.find()) {
            rows.append(row.group(1)).append(' ');
        }
        int named = 0;
        for (Method method : HallAnswers.class.getDeclaredMethods()) {
            if (Modifier.isPublic(method.getModifiers())) {
                Check.due("named once: " + method.getName(), rows.toString().split("`" + method.getName() + "`", -1).length - 1, 1);
                named++;
            }
        }
        Check.due("names in the table", rows.toString().split("`", -1).length / 2, named);
    }

    private static void testsNamed(String page) throws IOException {
        try (Stream<Path> files = Files.list(TESTS)) {
            for (String name : files.map(file -> file.getFileName().toString().replace(".java", "")).toList()) {
                if (name.endsWith("Tests")) {
                    Check.due("named: " + name, page.contains("`" + name + "`") ? 1 : 0, 1);
                }
            }
        }
        for (Matcher name = Pattern.compile("`(\\w+Tests)`").matcher(page); name.find();) {
            Check.due("there is " + name.group(1), Files.isReadable(TESTS.resolve(name.group(1) + ".java")) ? 1 : 0, 1);
        }
    }
}
