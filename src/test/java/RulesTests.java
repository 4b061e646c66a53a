import java.io.PrintWriter;
import java.io.StringWriter;
import java.util.ArrayList;
import java.util.List;
import java.util.Map;
import java.util.Optional;
import java.util.Set;
import java.util.TreeMap;
import java.util.TreeSet;
import java.util.regex.Matcher;
import java.util.regex.Pattern;
import java.util.spi.ToolProvider;

/** Those rules of ../shared/LANGUAGE.md that are best seen from the compiled class: who calls whom, what is made where. */
public final class RulesTests {
    private static final Pattern CLASS = Pattern.compile("^(?:\\w+ )*(?:class|interface) ([\\w$]+)\\b.*\\{$");
    private static final Pattern METHOD = Pattern.compile("^  ((?:\\w+ )*)(?:[\\w.$\\[\\]]+ )?([\\w$]+)\\(.*\\)(?: throws .*)?;$");
    private static final Pattern STEP = Pattern.compile("^ +\\d+: (\\w+)(.*)$");
    private static final Pattern CALLED = Pattern.compile("// (?:Interface)?Method (\\S+?):(\\S+)");
    private static final Pattern DESCRIPTOR = Pattern.compile("^    descriptor: (\\S+)$");

    /** Rule 4. */
    private static final Pattern LIBRARY = Pattern.compile("java/lang/(?:Object\\.<init>|(?:Integer|Long|Math)\\.(?!\\w*Exact)\\w+"
        + "|String\\.(?:length|charAt|isEmpty|equals|indexOf|substring|toCharArray|<init>)"
        + "|StringBuilder\\.(?:append|charAt|setCharAt|setLength|deleteCharAt|reverse|length|toString|<init>)|System\\.arraycopy)"
        + "|java/util/(?:Arrays\\.(?:copyOf|copyOfRange|fill)|(?:Array)?List\\.(?:add|get|set|remove|size|isEmpty|clear|of|<init>)).*");

    /** Rule 6, and what would stand for a lambda, a method reference, a joining by +. */
    private static final Set<String> BARRED = Set.of("athrow", "monitorenter", "monitorexit", "invokedynamic", "checkcast");
    private static final Set<String> MAKING = Set.of("new", "newarray", "anewarray", "multianewarray");
    private static final int DEEPEST = 8;

    private final Map<String, Set<String>> calls = new TreeMap<>();
    private final Map<String, Integer> depths = new TreeMap<>();
    private final Set<String> privateStatic = new TreeSet<>();
    private final Set<String> asked = new TreeSet<>();
    private final List<String> open = new ArrayList<>();
    private String inClass = "";
    private String inMethod = "";
    private String modifiers = "";

    public static void main(String[] args) {
        Optional<ToolProvider> javap = ToolProvider.findFirst("javap");
        if (javap.isEmpty()) {
            System.out.println("RulesTests: this Java has no javap to read the compiled class by");
            return;
        }
        RulesTests rules = new RulesTests();
        for (String line : compiled(javap.get()).split("\n")) {
            rules.read(line);
        }
        rules.allIsRead();
        rules.library();
        rules.depth();
        Check.finish("RulesTests");
    }

    private static String compiled(ToolProvider javap) {
        List<String> asked = new ArrayList<>(List.of("-c", "-p", "-s", "-cp", System.getProperty("java.class.path"), "HallAnswers"));
        for (Class<?> inside : HallAnswers.class.getDeclaredClasses()) {
            asked.add(inside.getName());
        }
        StringWriter told = new StringWriter();
        PrintWriter out = new PrintWriter(told);
        Check.due("javap", javap.run(out, out, asked.toArray(new String[0])), 0);
        out.flush();
        return told.toString().replace("\r", "");
    }

    private void read(String line) {
        Matcher begun = CLASS.matcher(line);
        Matcher method = METHOD.matcher(line);
        Matcher descriptor = DESCRIPTOR.matcher(line);
        Matcher step = STEP.matcher(line);
        if (begun.matches()) {
            inClass = begun.group(1);
        } else if (method.matches()) {
            modifiers = method.group(1);
            inMethod = inClass + "." + (method.group(2).equals(inClass) ? "<init>" : method.group(2));
        } else if (line.equals("  static {};")) {
            inMethod = inClass + ".<clinit>";
        } else if (descriptor.matches() && descriptor.group(1).startsWith("(")) {
            methodBegins(inMethod + descriptor.group(1));
        } else if (line.contains("Exception table:")) {
            Check.due("rule 6: a catch in " + inMethod, 1, 0);
        } else if (step.matches()) {
            stepOf(step.group(1), step.group(2));
        }
    }

    private void methodBegins(String name) {
        inMethod = name;
        calls.put(name, new TreeSet<>());
        if (modifiers.contains("private ") && modifiers.contains("static ")) {
            privateStatic.add(name);
        }
        if (name.startsWith("HallAnswers.") && modifiers.contains("public ")) {
            asked.add(name);
        }
        modifiers = "";
    }

    private void stepOf(String what, String of) {
        boolean makes = inMethod.contains(".<init>") || inMethod.contains(".<clinit>");
        Check.due("rule 6: " + what + of + " in " + inMethod, BARRED.contains(what) ? 1 : 0, 0);
        Check.due("NOTES: no call makes an object, but " + inMethod + " does", MAKING.contains(what) && !makes ? 1 : 0, 0);
        Matcher called = CALLED.matcher(of);
        if (what.startsWith("invoke") && called.find() && calls.containsKey(inMethod)) {
            String name = called.group(1).replace("\"", "");
            calls.get(inMethod).add((name.contains(".") ? name : inClass + "." + name) + called.group(2));
        }
    }

    /** Lest a javap that writes otherwise lets everything pass. */
    private void allIsRead() {
        Check.due("calls of the face, and the constructor", asked.size(), 42);
        Check.due("many methods", Math.min(calls.size(), 120), 120);
        int made = 0;
        for (Set<String> each : calls.values()) {
            made += each.size();
        }
        Check.due("many calls", Math.min(made, 250), 250);
    }

    private void library() {
        for (Set<String> each : calls.values()) {
            for (String called : each) {
                boolean own = calls.containsKey(called);
                Check.due("rule 4: " + called, own || LIBRARY.matcher(called.replaceFirst("\\(.*", "")).matches() ? 1 : 0, 1);
            }
        }
    }

    private void depth() {
        for (String call : asked) {
            Check.due("rule 11: how deep " + call + " calls", Math.max(depthOf(call), DEEPEST), DEEPEST);
        }
    }

    /** Rule 8: in a circle stands a private static method that calls itself, alone. */
    private int depthOf(String method) {
        if (depths.containsKey(method)) {
            return depths.get(method);
        }
        Check.due("rule 8: a circle of " + open + ", " + method, open.contains(method) ? 1 : 0, 0);
        if (open.contains(method)) {
            return 0;
        }
        open.add(method);
        int deepest = 0;
        for (String called : calls.getOrDefault(method, Set.of())) {
            if (called.equals(method)) {
                Check.due("rule 8: private and static is " + method, privateStatic.contains(method) ? 1 : 0, 1);
            } else {
                deepest = Math.max(deepest, depthOf(called));
            }
        }
        open.remove(method);
        depths.put(method, deepest + 1);
        return deepest + 1;
    }
}
