import java.io.IOException;
import java.lang.reflect.Method;
import java.lang.reflect.Modifier;
import java.nio.file.Files;
import java.nio.file.Path;
import java.util.ArrayList;
import java.util.List;
import java.util.Set;
import java.util.TreeSet;
import java.util.regex.Matcher;
import java.util.regex.Pattern;

/** The class's face, and those rules of ../shared/LANGUAGE.md that can be seen from its text. */
public final class FaceTests {
    private static final String SOURCE = "src/main/java/HallAnswers.java";
    private static final String[] FACE = {"answer(int,int)", "back(int)", "bench(int,int,int)", "best(int,int)",
        "broken(int)", "can(int,int,int)", "cell(int)", "clear(int,int)", "count(int)", "curtain(int,int)",
        "days(int,int,int)", "end(int)", "fault()", "feed(long)", "from(int,int)", "hang(int,int)", "heard(int,int)",
        "hears(int,int,int,int)", "hours()", "keep(int)", "knows(int,int)", "lay(int,int,int)", "leak(int,int,int)",
        "murmur(int,int,int)", "read(int,int,int,int)", "rule(int)", "said(int,int)", "say(int,int,int)",
        "seating(int,int)", "sheet(int,int,int)", "since(int,int)", "sit(int,int)", "steps(int,int)", "text()", "torn()",
        "unsay(int)", "want(int,int)", "warm(int)", "way(int,int,int)", "where(int,int,int)", "without(int)"};
    private static final Pattern METHOD = Pattern.compile("^(?:    |        )(?!.*(?:new|=|class) ).*\\b(\\w+)\\((.*)\\) \\{$");

    public static void main(String[] args) throws IOException {
        constants();
        methods();
        classes();
        List<String> lines = Files.readAllLines(Path.of(SOURCE));
        words(lines);
        lengths(lines);
        Check.finish("FaceTests");
    }

    private static void constants() {
        Check.due("BAD", HallAnswers.BAD, -1);
        Check.due("STATE", HallAnswers.STATE, -2);
        Check.due("FULL", HallAnswers.FULL, -3);
        Check.due("NONE", HallAnswers.NONE, -4);
        Check.due("open fields", openFields(), 4);
    }

    private static long openFields() {
        long open = 0;
        for (var field : HallAnswers.class.getDeclaredFields()) {
            open += Modifier.isPrivate(field.getModifiers()) ? 0 : 1;
        }
        return open;
    }

    private static void methods() {
        Set<String> found = new TreeSet<>();
        List<String> hidden = new ArrayList<>();
        for (Method method : HallAnswers.class.getDeclaredMethods()) {
            if (Modifier.isPrivate(method.getModifiers())) {
                hidden.add(method.getName());
            } else {
                found.add(told(method));
            }
        }
        Check.due("the face " + found, found.equals(Set.of(FACE)) ? 1 : 0, 1);
        for (Class<?> inside : HallAnswers.class.getDeclaredClasses()) {
            for (Method method : inside.getDeclaredMethods()) {
                hidden.add(method.getName());
            }
        }
        for (String call : FACE) {
            String name = call.substring(0, call.indexOf('('));
            Check.due("hidden methods named " + name, hidden.contains(name) ? 1 : 0, 0);
        }
        Check.due("constructors", HallAnswers.class.getDeclaredConstructors().length, 1);
        Check.due("final", Modifier.isFinal(HallAnswers.class.getModifiers()) ? 1 : 0, 1);
    }

    private static String told(Method method) {
        StringBuilder call = new StringBuilder(method.getName()).append('(');
        for (Class<?> type : method.getParameterTypes()) {
            call.append(call.charAt(call.length() - 1) == '(' ? "" : ",").append(type.getName());
        }
        boolean isAsTold = method.getReturnType() == int.class && Modifier.isPublic(method.getModifiers())
                && !Modifier.isStatic(method.getModifiers());
        return call.append(isAsTold ? ")" : ") not as told").toString();
    }

    private static void classes() {
        Class<?>[] inside = HallAnswers.class.getDeclaredClasses();
        Check.due("classes of twelve", inside.length + 1 <= 12 ? 1 : 0, 1);
        List<Class<?>> all = new ArrayList<>(List.of(inside));
        all.add(HallAnswers.class);
        for (Class<?> each : all) {
            int fields = 0;
            for (var field : each.getDeclaredFields()) {
                boolean isStatic = Modifier.isStatic(field.getModifiers());
                fields += isStatic ? 0 : 1;
                Check.due(field + " is final if static", isStatic && !Modifier.isFinal(field.getModifiers()) ? 1 : 0, 0);
            }
            Check.due("fields of " + each.getName(), Math.max(fields, 20), 20);
            Check.due(each.getName() + " is static", each == HallAnswers.class || Modifier.isStatic(each.getModifiers()) ? 1 : 0, 1);
        }
    }

    private static void words(List<String> lines) {
        String code = code(lines);
        for (String word : new String[]{"throw", "throws", "try", "catch", "synchronized", "assert", "instanceof", "Exact",
            "String\\.format", "System\\.(?!arraycopy)", "Thread", "Random", "var", "record", "package", "->", "::", "@"}) {
            Matcher found = Pattern.compile(word.matches("\\w+") ? "\\b\\w*" + word + "\\b" : word).matcher(code);
            Check.due("'" + word + "' in the class", found.find() ? 1 : 0, 0);
        }
        Check.due("imports", code.split("\nimport ", -1).length - 1 + (code.startsWith("import ") ? 1 : 0), 1);
        Check.due("import java.util.Arrays", code.contains("import java.util.Arrays;") ? 1 : 0, 1);
        // objects are made with the hall alone: no call makes one
        for (String line : code.split("\n")) {
            if (line.contains("new ")) {
                Check.due("made in a field: " + line.trim(), line.matches("    (    )?(private )?final .*= new .*;") ? 1 : 0, 1);
            }
        }
    }

    private static String code(List<String> lines) {
        StringBuilder code = new StringBuilder();
        for (String line : lines) {
            String bare = line.strip();
            if (!bare.startsWith("/*") && !bare.startsWith("*") && !bare.startsWith("//")) {
                code.append(line).append('\n');
            }
        }
        return code.toString();
    }

    private static void lengths(List<String> lines) {
        int begun = -1;
        String indent = "";
        for (int i = 0; i < lines.size(); i++) {
            Matcher method = METHOD.matcher(lines.get(i));
            if (begun < 0 && method.matches()) {
                begun = i;
                indent = lines.get(i).replaceFirst("\\S.*", "");
                int parameters = method.group(2).isEmpty() ? 0 : method.group(2).split(",").length;
                Check.due("parameters of " + method.group(1), Math.max(parameters, 7), 7);
            } else if (begun >= 0 && lines.get(i).equals(indent + "}")) {
                Check.due("lines of the method in line " + (begun + 1), Math.max(i - begun + 1, 60), 60);
                begun = -1;
            }
        }
    }
}
