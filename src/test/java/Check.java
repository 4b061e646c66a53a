import java.io.IOException;
import java.nio.file.Files;
import java.nio.file.Path;

/** What the tests share: a text told to a hall, an answer held against the one that is due. */
final class Check {
    static final int BAD = -1, STATE = -2, FULL = -3, NONE = -4;

    private static final Path DOCUMENT = Path.of("../shared/DOC.md");

    private static String document = "";
    private static String sentence = "";
    private static int asked = 0;
    private static int wrong = 0;

    private Check() {
    }

    /** From here on it is this sentence of the document that is tested; it must stand there, under this heading. */
    static void about(String heading, String words) {
        sentence = heading + ", \"" + words + "\": ";
        if (!Files.isReadable(DOCUMENT)) {
            System.out.println("there is no " + DOCUMENT + " to look up " + sentence);
            return;
        }
        int begun = document().indexOf("## " + heading + (heading.startsWith("Promise ") ? ": " : " "));
        String part = begun < 0 ? "" : document().substring(begun).split(" ## ")[0];
        due("the sentence stands in the document", part.contains(words) ? 1 : 0, 1);
    }

    /** In one line, so that a sentence is found however it is folded. */
    private static String document() {
        if (document.isEmpty()) {
            try {
                document = Files.readString(DOCUMENT).replaceAll("\\s+", " ");
            } catch (IOException e) {
                throw new IllegalStateException("can not read " + DOCUMENT, e);
            }
        }
        return document;
    }

    static void due(String call, long got, long want) {
        asked++;
        if (got != want) {
            wrong++;
            System.out.println(sentence + call + " answered " + got + ", due is " + want);
        }
    }

    /** Of calls that all have the same answer. */
    static void allDue(String calls, long want, long... got) {
        for (int i = 0; i < got.length; i++) {
            due(calls + " (number " + i + ")", got[i], want);
        }
    }

    /** Of calls one behind another, each with its own answer. */
    static void eachDue(String calls, long[] want, long... got) {
        due(calls + ": as many as are due", got.length, want.length);
        for (int i = 0; i < got.length && i < want.length; i++) {
            due(calls + " (number " + i + ")", got[i], want[i]);
        }
    }

    static long[] row(long... answers) {
        return answers;
    }

    static void feed(HallAnswers x, String text) {
        int before = x.count(6);
        for (int at = 0; at < text.length(); at += 8) {
            long v = 0;
            for (int i = at; i < at + 8; i++) {
                v = v << 8 | (i < text.length() ? text.charAt(i) & 255 : ' ');
            }
            x.feed(v);
        }
        x.end(before + text.length());
    }

    static int tell(HallAnswers x, String text) {
        feed(x, text);
        return x.text();
    }

    static HallAnswers hall(String text) {
        HallAnswers x = new HallAnswers();
        if (tell(x, text) < 0) {
            due("a text that is taken: " + text, x.fault(), 0);
        }
        return x;
    }

    /** Told to a hall that knew something else: what that was stays, but THE TAPE is empty. */
    static void dueFault(String text, int fault, int place) {
        HallAnswers x = hall("fade 17;");
        due(text, tell(x, text), -10 - place);
        due("the FAULT of " + text, x.fault(), fault);
        due("what was told ahead of " + text, x.rule(2), 17);
        due("THE TAPE behind " + text, x.count(6), 0);
    }

    static void dueTaken(String text, int lines) {
        HallAnswers x = new HallAnswers();
        due(text, tell(x, text), lines);
        due("no FAULT of " + text, x.fault(), 0);
        due("THE TAPE behind " + text, x.count(6), 0);
    }

    static void finish(String name) {
        System.out.println(name + ": " + (asked - wrong) + " of " + asked + " answers as due");
        if (wrong != 0 || asked == 0) {
            System.exit(1);
        }
    }
}
