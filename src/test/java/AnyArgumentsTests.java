import java.lang.reflect.InvocationTargetException;
import java.lang.reflect.Method;
import java.lang.reflect.Modifier;
import java.util.ArrayList;
import java.util.Arrays;
import java.util.Comparator;
import java.util.List;
import java.util.function.Supplier;

/** No call ever throws, for any arguments in any state (LANGUAGE.md, rule 7); of several refusals the first that fits (Terms). */
public final class AnyArgumentsTests {
    private static final int[] ONE = {Integer.MIN_VALUE, Integer.MIN_VALUE + 1, -65536, -32769, -256, -129, -40, -13, -12, -5, -4, -3, -2, -1,
        0, 1, 2, 3, 4, 5, 6, 7, 8, 9, 10, 11, 12, 13, 14, 15, 16, 17, 31, 32, 33, 39, 40, 41, 62, 63, 64, 65, 79, 80, 81, 82, 127, 128, 255,
        256, 257, 319, 320, 321, 32767, 32768, 65535, 65536, 1 << 30, Integer.MAX_VALUE - 1, Integer.MAX_VALUE};
    private static final int[] TWO = {Integer.MIN_VALUE, -13, -2, -1, 0, 1, 2, 3, 5, 6, 7, 8, 9, 10, 11, 12, 13, 15, 16, 31, 32, 40, 41, 63, 64,
        80, 81, 255, 256, 65536, Integer.MAX_VALUE};
    private static final int[] THREE = {Integer.MIN_VALUE, -1, 0, 1, 2, 5, 6, 7, 8, 11, 12, 40, 41, 255, 256, Integer.MAX_VALUE};
    private static final int[] FOUR = {Integer.MIN_VALUE, -1, 0, 1, 2, 3, 7, 8, 12, 37, 40, Integer.MAX_VALUE - 1, Integer.MAX_VALUE};
    private static final int[][] BY_COUNT = {{}, ONE, TWO, THREE, FOUR};
    private static final long[] FED = {Long.MIN_VALUE, -1, 0, 1, 0x2020202020202020L, 0x3b3b3b3b3b3b3b3bL, 0x6261722030203100L, Long.MAX_VALUE};

    /** What is asked of one hall at most, before the state is made anew. */
    private static final int CALLS = 500;

    /** The texts below hold these bytes; no text of them may bring the machine to throw. */
    private static final String[] PIECES = {"hall", "fade", "people", "bench", "pillar", "join", "whisper", "raised", " ", ";", "0", "8", "99",
        "1000", "?", "\u0000", "\u00ff", "9 9 ", "0 0 0 1;", "1 1;"};

    public static void main(String[] args) throws IllegalAccessException {
        List<Supplier<HallAnswers>> states = List.of(Halls::empty, Halls::rich, Halls::full, AnyArgumentsTests::walled,
                AnyArgumentsTests::crowded, AnyArgumentsTests::nobody, AnyArgumentsTests::fullTape);
        for (Supplier<HallAnswers> state : states) {
            for (Method method : calls()) {
                new AnyArgumentsTests(state, method).callWithAll(0);
            }
        }
        anyTexts();
        theFirstThatFits();
        refusedChangesNothing();
        manyCalls();
        Check.finish("AnyArgumentsTests");
    }

    private final Supplier<HallAnswers> state;
    private final Method method;
    private final Object[] given;
    private HallAnswers hall;
    private int called = 0;

    private AnyArgumentsTests(Supplier<HallAnswers> begun, Method asked) {
        state = begun;
        method = asked;
        given = new Object[asked.getParameterCount()];
    }

    private static List<Method> calls() {
        List<Method> calls = new ArrayList<>();
        for (Method each : HallAnswers.class.getDeclaredMethods()) {
            if (Modifier.isPublic(each.getModifiers())) {
                calls.add(each);
            }
        }
        calls.sort(Comparator.comparing(Method::getName));
        Check.due("calls of the face", calls.size(), 41);
        return calls;
    }

    private void callWithAll(int filled) throws IllegalAccessException {
        if (filled == given.length) {
            call();
        } else if (method.getParameterTypes()[filled] == long.class) {
            for (long v : FED) {
                given[filled] = v;
                callWithAll(filled + 1);
            }
        } else {
            for (int v : BY_COUNT[given.length]) {
                given[filled] = v;
                callWithAll(filled + 1);
            }
        }
    }

    private void call() throws IllegalAccessException {
        if (called++ % CALLS == 0) {
            hall = state.get();
        }
        try {
            int answer = (Integer) method.invoke(hall, given);
            if (answer < -10 - 320 || answer == Integer.MAX_VALUE) {
                Check.due(method.getName() + Arrays.toString(given) + " is an answer", answer, 0);
            }
        } catch (InvocationTargetException e) {
            Check.due(method.getName() + Arrays.toString(given) + " threw " + e.getCause(), 1, 0);
            hall = state.get();
        }
    }

    /** All CELLS are DEAF, but those of the BENCHES. */
    private static HallAnswers walled() {
        HallAnswers x = Halls.rich();
        for (int c = 0; c < 81; c++) {
            x.hang(c, 1 + c % 2);
        }
        return x;
    }

    /** Nothing swallows or fades WHISPERS between eight BENCHES in a row, all of them moving. */
    private static HallAnswers crowded() {
        StringBuilder row = new StringBuilder("hall 9 9;fade 0;bounce 0;warm 1;");
        for (int i = 0; i < 8; i++) {
            row.append("bench ").append(i).append(" 8 2 1 moving;");
        }
        HallAnswers x = Check.hall(row + "join 0 5;".repeat(8));
        x.murmur(7, 12, 0);
        return x;
    }

    private static HallAnswers nobody() {
        return Check.hall("hall 3 3;people 0;bench 2 2 3 100;");
    }

    private static HallAnswers fullTape() {
        HallAnswers x = new HallAnswers();
        Check.feed(x, "x".repeat(320));
        return x;
    }

    private static void anyTexts() {
        for (String first : PIECES) {
            for (String second : PIECES) {
                for (String third : PIECES) {
                    HallAnswers x = new HallAnswers();
                    for (String fourth : PIECES) {
                        int answer = Check.tell(x, first + second + third + fourth);
                        int due = answer >= 0 ? 0 : 1;
                        Check.due("a FAULT, or none: " + first + second + third + fourth, x.fault() == 0 ? 0 : 1, due);
                    }
                }
            }
        }
    }

    private static void theFirstThatFits() {
        Check.about("Terms", "Answers: BAD -1 (a number is not as told, there is no such CELL, BENCH, ONE, WHISPER, IMAGE, SHEET), STATE -2 (as "
                + "told), FULL -3, NONE -4 (there is none), the first that fits");
        HallAnswers x = Check.hall("bench 0 0 2 1;bench 0 6 2 1;pillar 1 0;join 0 1;");
        Check.eachDue("STATE, NONE alone", Check.row(-2, -2, -4, -4, -4, -4, -4, -4, -4, -4), x.hang(0, 1), x.back(0), x.way(0, 0, 1),
                x.hears(0, 1, 0, 0), x.answer(0, 0), x.curtain(0, 0), x.clear(0, 0), x.since(0, 0), x.leak(0, 0, 0), x.count(7));
        Check.allDue("BAD ahead of STATE, of NONE", Check.BAD, x.hang(0, 3), x.hang(0, -1), x.back(2), x.way(0, 0, 41), x.way(0, 12, 1),
                x.hears(0, 1, 0, 3), x.hears(0, 0, 0, 0), x.hears(0, 1, 12, 0), x.answer(0, 12), x.curtain(12, 0), x.curtain(0, 2), x.clear(12, 0),
                x.clear(0, 2), x.since(0, 8), x.since(2, 0), x.leak(0, 0, 3), x.leak(0, 4, 0), x.count(8));
        HallAnswers y = Check.hall("bench 0 0 2 1;" + "whisper 3 0 0;".repeat(12));
        Check.eachDue("FULL alone", Check.row(-3, 12), y.say(3, 0, 0), y.count(4));
        Check.allDue("BAD ahead of FULL", Check.BAD, y.say(2, 0, 0), y.say(12, 0, 0), y.say(3, 1, 0), y.say(3, 0, 8));
        Check.eachDue("BAD ahead of a FAULT", Check.row(Check.BAD, Check.BAD, -14, Check.BAD, -11, Check.BAD, 0), y.sheet(4, 0, -1),
                y.sheet(0, 3, -1), y.sheet(0, 0, -1), y.lay(4, 0, 0), y.lay(0, 0, 0), y.read(0, 3, 0, 1), y.read(0, 0, 0, 1));
        Check.eachDue("BAD ahead of STATE", Check.row(Check.BAD, Check.BAD, Check.STATE), new HallAnswers().murmur(0, 13, 0),
                new HallAnswers().murmur(0, 1, 12), new HallAnswers().murmur(0, 1, 0));
    }

    /** Each refusal by itself is tested with its promise; here one behind another. */
    private static void refusedChangesNothing() {
        Check.about("Terms", "what is refused changes nothing (but THE TAPE, as told).");
        Twins.same("many refusals", Halls::full, x -> Check.eachDue("all are refused",
                Check.row(-1, -1, -1, -2, -1, -1, -1, -3, -1, -1, -1, -1, -1, -1, -14, -1, -12, -11, -1, -20),
                x.end(321), x.hang(-1, 0), x.hang(20, 3), x.hang(0, 1), x.warm(10), x.sit(6, 0), x.sit(0, 8), x.say(11, 0, 0), x.say(0, 0, 0),
                x.unsay(13), x.murmur(1, 13, 0), x.keep(2), x.back(-1), x.sheet(0, 0, 41), x.sheet(0, 0, -1), x.lay(4, 0, 0), x.lay(0, 9, 0),
                x.lay(3, 0, 0), x.read(0, 0, 0, 13), x.read(0, 0, 0, 1)));
        Twins.same("a refused feed()", () -> fed(313), x -> Check.due("FULL", x.feed(-1), Check.FULL));
        HallAnswers text = Halls.full();
        Check.eachDue("THE TAPE of a text that is refused", Check.row(13, -23, 0, 12, 8), text.count(6), text.text(), text.count(6), text.count(4),
                text.count(0));
    }

    private static HallAnswers fed(int bytes) {
        HallAnswers x = Halls.rich();
        x.end(0);
        Check.feed(x, "fade 4;" + " ".repeat(bytes - 7));
        return x;
    }

    /** The dearest calls, and those that keep what they are given. */
    private static void manyCalls() {
        Check.about("What it is", "An object is used for at most 512 calls after it has been made; what later calls answer is free.");
        HallAnswers x = new HallAnswers();
        for (int i = 0; i < 512; i++) {
            Check.due("THE TAPE, call " + i, x.feed(-1), i < 40 ? 8 * i + 8 : Check.FULL);
        }
        HallAnswers texts = new HallAnswers();
        for (int i = 0; i < 170; i++) {
            Check.eachDue("texts, " + i, Check.row(8, i % 2 == 0 ? -10 : -18, i % 2 == 0 ? 1 : 2), texts.feed(i % 2 == 0 ? -1 : 0x6661646520202039L),
                    texts.text(), texts.fault());
        }
        HallAnswers dear = crowded();
        long[] first = dearest(dear);
        for (int i = 1; i < 40; i++) {
            Check.eachDue("as the first time, " + i, first, dearest(dear));
        }
        HallAnswers kept = Halls.rich();
        for (int i = 0; i < 120; i++) {
            Check.eachDue("IMAGES and SHEETS, " + i, Check.row(1, 4, 1, 1), kept.keep(i % 2), kept.back(i % 2), kept.sheet(i % 4, i % 3, 40),
                    kept.lay(i % 4, 39, i));
        }
    }

    private static long[] dearest(HallAnswers x) {
        return Check.row(x.seating(0, 0), x.seating(11, 1), x.seating(5, 15), x.curtain(0, 0), x.clear(0, 0), x.hours(), x.days(3, 9, 2),
                x.best(0, 1), x.where(255, 0, 0), x.where(1, 7, 2), x.without(0), x.said(11, 3));
    }
}
