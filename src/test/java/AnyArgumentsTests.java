import java.lang.reflect.InvocationTargetException;
import java.lang.reflect.Method;
import java.lang.reflect.Modifier;
import java.util.ArrayList;
import java.util.Arrays;
import java.util.Comparator;
import java.util.List;
import java.util.function.Supplier;

/** No call ever throws, for any arguments in any state (LANGUAGE.md, rule 7); of several refusals the first that fits (Terms). */
public final class AnyArgumentsTests {
    private static final int[] ONE = {Integer.MIN_VALUE, Integer.MIN_VALUE + 1, -65536, -32769, -256, -129, -40, -13, -12, -5, -4, -3, -2, -1,
        0, 1, 2, 3, 4, 5, 6, 7, 8, 9, 10, 11, 12, 13, 14, 15, 16, 17, 31, 32, 33, 39, 40, 41, 62, 63, 64, 65, 79, 80, 81, 82, 127, 128, 255,
        256, 257, 319, 320, 321, 32767, 32768, 65535, 65536, 1 << 30, Integer.MAX_VALUE - 1, Integer.MAX_VALUE};
    private static final int[] TWO = {Integer.MIN_VALUE, -13, -2, -1, 0, 1, 2, 3, 5, 6, 7, 8, 9, 10, 11, 12, 13, 15, 16, 31, 32, 40, 41, 63, 64,
        80, 81, 255, 256, 65536, Integer.MAX_VALUE};
    private static final int[] THREE = {Integer.MIN_VALUE, -1, 0, 1, 2, 5, 6, 7, 8, 11, 12, 40, 41, 255, 256, Integer.MAX_VALUE};
    private static final int[] FOUR = {Integer.MIN_VALUE, -1, 0, 1, 2, 3, 7, 8, 12, 37, 40, Integer.MAX_VALUE - 1, Integer.MAX_VALUE};
    private static final int[][] BY_COUNT = {{}, ONE, TWO, THREE, FOUR};
    private static final long[] FED = {Long.MIN_VALUE, -1, 0, 1, 0x2020202020202020L, 0x3b3b3b3b3b3b3b3bL, 0x6261722030203100L, Long.MAX_VALUE};

    /** What is asked of one hall at most, before the state is made anew. */
    private static final int CALLS = 500;

    /** The texts below hold these bytes; no text of them may bring the machine to throw. */
    private static final String[] PIECES = {"hall", "fade", "people", "bench", "pillar", "join", "whisper", "raised", " ", ";", "0", "8", "99",
        "1000", "?", "\u0000", "\u00ff", "9 9 ", "0 0 0 1;", "1 1;"};

    public static void main(String[] args) throws IllegalAccessException {
        List<Supplier<HallAnswers>> states = List.of(Halls::empty, Halls::rich, Halls::full, AnyArgumentsTests::walled,
                AnyArgumentsTests::crowded, AnyArgumentsTests::nobody, AnyArgumentsTests::fullTape);
        for (Supplier<HallAnswers> state : states) {
            for (Method method : calls()) {
                new AnyArgumentsTests(state, method).callWithAll(0);
            }
        }
        anyTexts();
        theFirstThatFits();
        Check.finish("AnyArgumentsTests");
    }

    private final Supplier<HallAnswers> state;
    private final Method method;
    private final Object[] given;
    private HallAnswers hall;
    private int called = 0;

    private AnyArgumentsTests(Supplier<HallAnswers> begun, Method asked) {
        state = begun;
        method = asked;
        given = new Object[asked.getParameterCount()];
    }

    private static List<Method> calls() {
        List<Method> calls = new ArrayList<>();
        for (Method each : HallAnswers.class.getDeclaredMethods()) {
            if (Modifier.isPublic(each.getModifiers())) {
                calls.add(each);
            }
        }
        calls.sort(Comparator.comparing(Method::getName));
        Check.due("calls of the face", calls.size(), 41);
        return calls;
    }

    private void callWithAll(int filled) throws IllegalAccessException {
        if (filled == given.length) {
            call();
        } else if (method.getParameterTypes()[filled] == long.class) {
            for (long v : FED) {
                given[filled] = v;
                callWithAll(filled + 1);
            }
        } else {
            for (int v : BY_COUNT[given.length]) {
                given[filled] = v;
                callWithAll(filled + 1);
            }
        }
    }

    private void call() throws IllegalAccessException {
        if (called++ % CALLS == 0) {
            hall = state.get();
        }
        try {
            int answer = (Integer) method.invoke(hall, given);
            if (answer < -10 - 320 || answer == Integer.MAX_VALUE) {
                Check.due(method.getName() + Arrays.toString(given) + " is an answer", answer, 0);
            }
        } catch (InvocationTargetException e) {
            Check.due(method.getName() + Arrays.toString(given) + " threw " + e.getCause(), 1, 0);
            hall = state.get();
        }
    }

    /** All CELLS are DEAF, but those of the BENCHES. */
    private static HallAnswers walled() {
        HallAnswers x = Halls.rich();
        for (int c = 0; c < 81; c++) {
            x.hang(c, 1 + c % 2);
        }
        return x;
    }

    /** Nothing swallows or fades WHISPERS between eight BENCHES in a row, all of them moving. */
    private static HallAnswers crowded() {
        StringBuilder row = new StringBuilder("hall 9 9;fade 0;bounce 0;warm 1;");
        for (int i = 0; i < 8; i++) {
            row.append("bench ").append(i).append(" 8 2 1 moving;");
        }
        HallAnswers x = Check.hall(row + "join 0 5;".repeat(8));
        x.murmur(7, 12, 0);
        return x;
    }

    private static HallAnswers nobody() {
        return Check.hall("hall 3 3;people 0;bench 2 2 3 100;");
    }

    private static HallAnswers fullTape() {
        HallAnswers x = new HallAnswers();
        Check.feed(x, "x".repeat(320));
        return x;
    }

    private static void anyTexts() {
        for (String first : PIECES) {
            for (String second : PIECES) {
                for (String third : PIECES) {
                    HallAnswers x = new HallAnswers();
                    for (String fourth : PIECES) {
                        int answer = Check.tell(x, first + second + third + fourth);
                        int due = answer >= 0 ? 0 : 1;
                        Check.due("a FAULT, or none: " + first + second + third + fourth, x.fault() == 0 ? 0 : 1, due);
                    }
                }
            }
        }
    }

    private static void theFirstThatFits() {
        Check.about("Terms", "Answers: BAD -1 (a number is not as told, there is no such CELL, BENCH, ONE, WHISPER, IMAGE, SHEET), STATE -2 (as "
                + "told), FULL -3, NONE -4 (there is none), the first that fits");
        HallAnswers x = Check.hall("bench 0 0 2 1;bench 0 6 2 1;pillar 1 0;join 0 1;");
        Check.eachDue("STATE, NONE alone", Check.row(-2, -2, -4, -4, -4, -4, -4, -4, -4, -4), x.hang(0, 1), x.back(0), x.way(0, 0, 1),
                x.hears(0, 1, 0, 0), x.answer(0, 0), x.curtain(0, 0), x.clear(0, 0), x.since(0, 0), x.leak(0, 0, 0), x.count(7));
        Check.allDue("BAD ahead of STATE, of NONE", Check.BAD, x.hang(0, 3), x.hang(0, -1), x.back(2), x.way(0, 0, 41), x.way(0, 12, 1),
                x.hears(0, 1, 0, 3), x.hears(0, 0, 0, 0), x.hears(0, 1, 12, 0), x.answer(0, 12), x.curtain(12, 0), x.curtain(0, 2), x.clear(12, 0),
                x.clear(0, 2), x.since(0, 8), x.since(2, 0), x.leak(0, 0, 3), x.leak(0, 4, 0), x.count(8));
        HallAnswers y = Check.hall("bench 0 0 2 1;" + "whisper 3 0 0;".repeat(12));
        Check.eachDue("FULL alone", Check.row(-3, 12), y.say(3, 0, 0), y.count(4));
        Check.allDue("BAD ahead of FULL", Check.BAD, y.say(2, 0, 0), y.say(12, 0, 0), y.say(3, 1, 0), y.say(3, 0, 8));
        Check.eachDue("BAD ahead of a FAULT", Check.row(Check.BAD, Check.BAD, -14, Check.BAD, -11, Check.BAD, 0), y.sheet(4, 0, -1),
                y.sheet(0, 3, -1), y.sheet(0, 0, -1), y.lay(4, 0, 0), y.lay(0, 0, 0), y.read(0, 3, 0, 1), y.read(0, 0, 0, 1));
        Check.eachDue("BAD ahead of STATE", Check.row(Check.BAD, Check.BAD, Check.STATE), new HallAnswers().murmur(0, 13, 0),
                new HallAnswers().murmur(0, 1, 12), new HallAnswers().murmur(0, 1, 0));
    }
}
