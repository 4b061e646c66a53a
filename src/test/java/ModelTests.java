import java.util.Random;

/** Runs of random calls, each held against Model: mostly fitting arguments, now and then any. */
public final class ModelTests {
    private static final int RUNS = 4000;
    private static final int CALLS = 90;
    private static final String[] NAMES = {"feed", "end", "text", "fault", "rule", "cell", "bench", "want", "hang", "warm",
        "sit", "way", "steps", "hears", "heard", "answer", "can", "broken", "seating", "curtain", "clear", "hours", "days",
        "best", "say", "unsay", "said", "knows", "since", "leak", "without", "murmur", "from", "where", "keep", "back",
        "sheet", "lay", "read", "torn", "count"};
    private static final int[] EDGES = {-1, -2, 12, 13, 40, 41, 255, 256, Integer.MIN_VALUE, Integer.MAX_VALUE, -128, 32768};

    private final Random random;
    private final HallAnswers x = new HallAnswers();
    private final Model m = new Model();

    private ModelTests(long seed) {
        random = new Random(seed);
    }

    public static void main(String[] args) {
        for (int run = 0; run < RUNS; run++) {
            new ModelTests(run).run(run);
        }
        Check.finish("ModelTests");
    }

    private void run(int run) {
        tell(run, true);
        for (int call = 0; call < CALLS; call++) {
            if (random.nextInt(30) == 0) {
                tell(run, random.nextBoolean());
            } else {
                String name = NAMES[random.nextInt(NAMES.length)];
                int[] a = new int[4];
                for (int i = 0; i < 4; i++) {
                    a[i] = random.nextInt(25) == 0 ? EDGES[random.nextInt(EDGES.length)] : random.nextInt(8);
                }
                fit(name, a);
                ask(run, name, a);
            }
        }
    }

    /** Moves arguments to where the call has most to answer. */
    private void fit(String name, int[] a) {
        boolean wild = random.nextInt(6) == 0;
        if (wild) {
            return;
        }
        int benches = Math.max(1, m.benches.size());
        int people = Math.max(1, m.seats.size());
        int hour = random.nextInt(12);
        switch (name) {
            case "cell", "hang" -> {
                a[0] = 9 * random.nextInt(m.high) + random.nextInt(m.wide);
                a[1] = random.nextInt(3);
            }
            case "bench", "way" -> set(a, random.nextInt(benches), hour, random.nextInt(name.equals("way") ? 12 : 5), 0);
            case "steps", "heard", "answer" -> set(a, random.nextInt(benches), hour, 0, 0);
            case "want" -> set(a, random.nextInt(Math.max(1, m.wants.size())), random.nextInt(3), 0, 0);
            case "sit" -> set(a, random.nextInt(people), random.nextInt(benches), 0, 0);
            case "hears" -> set(a, random.nextInt(benches), random.nextInt(benches), hour, random.nextInt(3));
            case "can" -> set(a, random.nextInt(people), random.nextInt(people), hour, 0);
            case "seating" -> set(a, hour, random.nextBoolean() ? random.nextInt(2) : 10 + random.nextInt(people), 0, 0);
            case "curtain", "clear", "best" -> set(a, hour, random.nextInt(2), 0, 0);
            case "broken" -> a[0] = hour;
            case "days" -> set(a, hour, random.nextInt(10), random.nextInt(3), 0);
            case "say" -> set(a, latestHour(), random.nextInt(people), random.nextInt(3), 0);
            case "unsay" -> a[0] = Math.max(0, m.whispers.size() - random.nextInt(4));
            case "said" -> set(a, random.nextInt(Math.max(1, m.whispers.size())), random.nextInt(4), 0, 0);
            case "knows" -> set(a, random.nextInt(people), random.nextInt(m.whispers.size() + 1), 0, 0);
            case "since" -> set(a, random.nextInt(people), random.nextInt(3), 0, 0);
            case "leak" -> set(a, random.nextInt(3), random.nextInt(1 << people), random.nextInt(3), 0);
            case "without" -> a[0] = random.nextInt(Math.max(1, m.whispers.size()));
            case "murmur" -> set(a, random.nextInt(), 1 + random.nextInt(12), hour, 0);
            case "from" -> set(a, m.benches.isEmpty() ? 0 : m.heard(random.nextInt(benches), hour), hour, 0, 0);
            case "where" -> set(a, 1 << random.nextInt(benches) | 1 << random.nextInt(benches), hour, random.nextInt(3), 0);
            case "keep", "back" -> a[0] = random.nextInt(2);
            case "sheet" -> set(a, random.nextInt(2), random.nextInt(3), random.nextInt(41), 0);
            case "lay" -> set(a, random.nextInt(2), random.nextInt(8), random.nextInt(4), 0);
            case "read" -> set(a, random.nextInt(2), random.nextInt(3), random.nextInt(6), random.nextInt(4));
            default -> { }
        }
    }

    private static void set(int[] a, int first, int second, int third, int fourth) {
        a[0] = first;
        a[1] = second;
        a[2] = third;
        a[3] = fourth;
    }

    private int latestHour() {
        int latest = m.whispers.isEmpty() ? 0 : m.whispers.get(m.whispers.size() - 1).hour();
        return Math.min(11, latest + random.nextInt(2));
    }

    private void ask(int run, String name, int[] a) {
        long seed = random.nextLong();
        long got = hallAnswers(name, a, seed);
        long due = modelAnswers(name, a, seed);
        Check.due("run " + run + ": " + name + java.util.Arrays.toString(a), got, due);
    }

    private long hallAnswers(String name, int[] a, long v) {
        return switch (name) {
            case "feed" -> x.feed(v);
            case "end" -> x.end(a[0]);
            case "text" -> x.text();
            case "fault" -> x.fault();
            case "rule" -> x.rule(a[0]);
            case "cell" -> x.cell(a[0]);
            case "bench" -> x.bench(a[0], a[1], a[2]);
            case "want" -> x.want(a[0], a[1]);
            case "hang" -> x.hang(a[0], a[1]);
            case "warm" -> x.warm(a[0]);
            case "sit" -> x.sit(a[0], a[1]);
            case "way" -> x.way(a[0], a[1], a[2]);
            case "steps" -> x.steps(a[0], a[1]);
            case "hears" -> x.hears(a[0], a[1], a[2], a[3]);
            case "heard" -> x.heard(a[0], a[1]);
            case "answer" -> x.answer(a[0], a[1]);
            case "can" -> x.can(a[0], a[1], a[2]);
            case "broken" -> x.broken(a[0]);
            case "seating" -> x.seating(a[0], a[1]);
            case "curtain" -> x.curtain(a[0], a[1]);
            case "clear" -> x.clear(a[0], a[1]);
            case "hours" -> x.hours();
            case "days" -> x.days(a[0], a[1], a[2]);
            case "best" -> x.best(a[0], a[1]);
            case "say" -> x.say(a[0], a[1], a[2]);
            case "unsay" -> x.unsay(a[0]);
            case "said" -> x.said(a[0], a[1]);
            case "knows" -> x.knows(a[0], a[1]);
            case "since" -> x.since(a[0], a[1]);
            case "leak" -> x.leak(a[0], a[1], a[2]);
            case "without" -> x.without(a[0]);
            case "murmur" -> x.murmur(a[0], a[1], a[2]);
            case "from" -> x.from(a[0], a[1]);
            case "where" -> x.where(a[0], a[1], a[2]);
            case "keep" -> x.keep(a[0]);
            case "back" -> x.back(a[0]);
            case "sheet" -> x.sheet(a[0], a[1], a[2]);
            case "lay" -> x.lay(a[0], a[1], a[2]);
            case "read" -> x.read(a[0], a[1], a[2], a[3]);
            case "torn" -> x.torn();
            default -> x.count(a[0]);
        };
    }

    private long modelAnswers(String name, int[] a, long v) {
        return switch (name) {
            case "feed" -> m.feed(v);
            case "end" -> m.end(a[0]);
            case "text" -> m.text();
            case "fault" -> m.latestFault;
            case "rule" -> m.rule(a[0]);
            case "cell" -> m.cell(a[0]);
            case "bench" -> m.bench(a[0], a[1], a[2]);
            case "want" -> m.want(a[0], a[1]);
            case "hang" -> m.hang(a[0], a[1]);
            case "warm" -> m.warm(a[0]);
            case "sit" -> m.sit(a[0], a[1]);
            case "way" -> m.way(a[0], a[1], a[2]);
            case "steps" -> m.steps(a[0], a[1]);
            case "hears" -> m.hears(a[0], a[1], a[2], a[3]);
            case "heard" -> m.heard(a[0], a[1]);
            case "answer" -> m.answer(a[0], a[1]);
            case "can" -> m.can(a[0], a[1], a[2]);
            case "broken" -> m.broken(a[0]);
            case "seating" -> m.seating(a[0], a[1]);
            case "curtain" -> m.curtain(a[0], a[1]);
            case "clear" -> m.clear(a[0], a[1]);
            case "hours" -> m.hours();
            case "days" -> m.days(a[0], a[1], a[2]);
            case "best" -> m.best(a[0], a[1]);
            case "say" -> m.say(a[0], a[1], a[2]);
            case "unsay" -> m.unsay(a[0]);
            case "said" -> m.said(a[0], a[1]);
            case "knows" -> m.knows(a[0], a[1]);
            case "since" -> m.since(a[0], a[1]);
            case "leak" -> m.leak(a[0], a[1], a[2]);
            case "without" -> m.without(a[0]);
            case "murmur" -> m.murmur(a[0], a[1], a[2]);
            case "from" -> m.from(a[0], a[1]);
            case "where" -> m.where(a[0], a[1], a[2]);
            case "keep" -> m.keep(a[0]);
            case "back" -> m.back(a[0]);
            case "sheet" -> m.sheet(a[0], a[1], a[2]);
            case "lay" -> m.lay(a[0], a[1], a[2]);
            case "read" -> m.read(a[0], a[1], a[2], a[3]);
            case "torn" -> m.latestTorn;
            default -> m.count(a[0]);
        };
    }

    private void tell(int run, boolean fits) {
        x.end(0);
        m.end(0);
        String text = fits ? fittingText() : spoilt(fittingText());
        text = text.substring(0, Math.min(text.length(), 320));
        for (int at = 0; at < text.length(); at += 8) {
            long v = 0;
            for (int i = at; i < at + 8; i++) {
                v = v << 8 | (i < text.length() ? text.charAt(i) : ' ');
            }
            Check.due("feed", x.feed(v), m.feed(v));
        }
        Check.due("end", x.end(text.length()), m.end(text.length()));
        Check.due("run " + run + ": " + text, x.text(), m.text());
        Check.due("FAULT of " + text, x.fault(), m.latestFault);
    }

    private String fittingText() {
        StringBuilder text = new StringBuilder();
        int wide = 3 + random.nextInt(4);
        int high = 3 + random.nextInt(3);
        text.append("hall ").append(wide).append(' ').append(high).append(';');
        rule(text, "fade ", 5);
        rule(text, "bounce ", 9);
        rule(text, "warm ", 5);
        boolean[] taken = new boolean[81];
        int benches = random.nextInt(9);
        for (int b = 0; b < benches; b++) {
            int px = random.nextInt(wide);
            int py = random.nextInt(high);
            taken[9 * py + px] = true;
            int kind = random.nextInt(7);
            text.append("bench ").append(px).append(' ').append(py).append(' ').append(random.nextInt(8)).append(' ')
                    .append(1 + random.nextInt(95)).append(kind < 5 ? Model.KINDS.get(kind) : "").append(';');
        }
        int people = Math.min(benches, 6);
        if (random.nextInt(3) == 0 && benches > 0) {
            people = random.nextInt(people + 1);
            text.append("people ").append(people).append(';');
        }
        for (int i = 0; i < 3; i++) {
            int px = random.nextInt(wide);
            int py = random.nextInt(high);
            if (!taken[9 * py + px] && random.nextBoolean()) {
                taken[9 * py + px] = true;
                text.append(random.nextBoolean() ? "pillar " : "curtain").append(px).append(' ').append(py).append(';');
            }
        }
        for (int i = random.nextInt(8); people > 1 && i > 0 && text.length() < 312; i--) {
            int p = random.nextInt(people);
            int q = (p + 1 + random.nextInt(people - 1)) % people;
            text.append(random.nextBoolean() ? "join" : "bar").append(p).append(' ').append(q).append(';');
        }
        for (int i = 0; people > 0 && i < 12 && text.length() < 305; i += random.nextInt(5)) {
            text.append("whisper").append(i).append(' ').append(random.nextInt(people)).append(' ')
                    .append(random.nextInt(3)).append(';');
        }
        return text.toString();
    }

    private void rule(StringBuilder text, String name, int bound) {
        if (random.nextBoolean()) {
            text.append(name).append(random.nextInt(bound)).append(';');
        }
    }

    private static final String[] SPLINTERS = {" ", "  ", ";", ".", "0", "9", "7", "100", "1000", "plain", "raised", "hall",
        "bench 0 0 0 1;", "bench 1 1 1 1;", "fade 1;", "people 2;", "people 7;", "pillar 1 1;", "curtain 1 1;", "pillar 8 8;",
        "join 0 1;", "bar 5 5;", "join 5 4;", "whisper 0 0 0;", "whisper 11 0 0;", "x", "\u0000", "\u00ff", "A", "\n"};

    private String spoilt(String text) {
        StringBuilder spoilt = new StringBuilder(text);
        for (int i = 1 + random.nextInt(3); i > 0; i--) {
            int at = random.nextInt(spoilt.length() + 1);
            String splinter = SPLINTERS[random.nextInt(SPLINTERS.length)];
            switch (random.nextInt(3)) {
                case 0 -> spoilt.insert(at, splinter);
                case 1 -> spoilt.replace(at, Math.min(spoilt.length(), at + splinter.length()), splinter);
                default -> spoilt.delete(at, Math.min(spoilt.length(), at + random.nextInt(12)));
            }
        }
        return spoilt.toString();
    }
}
