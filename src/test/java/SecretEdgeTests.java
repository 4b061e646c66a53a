import java.util.Arrays;

/** The edges of WHISPERS, one behind another (Terms), and of promises 26 to 33. */
public final class SecretEdgeTests {
    /** A row: 0 is HEARD by 1, 1 by 2, 2 by 3, 3 by 4, 4 by 5, 5 by nobody. */
    private static final String ROW = "hall 9 3;fade 20;bounce 50;bench 0 0 2 80;bench 1 0 2 80;bench 2 0 2 80;bench 3 0 2 80;"
        + "bench 4 0 2 80;bench 5 0 0 80;";

    public static void main(String[] args) {
        twelve();
        whisperedIf();
        inItsHour();
        allSecrets();
        sayTakes();
        sayRefuses();
        unsay();
        said();
        knows();
        since();
        leak();
        leakRefuses();
        without();
        withoutBelowNought();
        murmurDraws();
        murmurRefuses();
        Check.finish("SecretEdgeTests");
    }

    private static void twelve() {
        Check.about("Terms", "WHISPERS (12), one behind another");
        String twelve = "bench0 0 0 1;" + "whisper0 0 0;".repeat(12);
        for (int told = 0; told <= 12; told++) {
            HallAnswers x = Check.hall("bench0 0 0 1;" + "whisper0 0 0;".repeat(told));
            for (int i = told; i < 12; i++) {
                Check.due("said behind " + i, x.say(0, 0, 0), i + 1);
            }
            Check.eachDue("the 13th", Check.row(Check.FULL, 12), x.say(11, 0, 7), x.count(4));
        }
        HallAnswers x = Check.hall(twelve);
        x.sheet(0, 0, 36);
        Check.eachDue("the 13th that is read", Check.row(-20, 12, 11, -21, 11), x.read(0, 0, 0, 1), x.unsay(11), x.count(4), x.read(0, 0, 0, 2),
                x.count(4));
        Check.eachDue("twelve in place of twelve", Check.row(1, 12, 12), x.read(0, 0, 0, 1), x.murmur(0, 12, 0), x.count(4));
        Check.dueFault(twelve + "whisper0 0 0;", 5, twelve.length());
    }

    private static void whisperedIf() {
        Check.about("Terms", "in its HOUR the ONE whispers the SECRET, if he KNOWS it, or nobody KNOWS it yet: he and all PEOPLE who HEAR "
                + "him KNOW it from then on");
        HallAnswers x = Check.hall(ROW + "whisper 0 0 1;whisper 0 2 1;whisper 0 1 1;whisper 0 2 1;whisper 0 5 1;whisper 0 5 2;");
        int[] whispered = {1, 0, 1, 1, 0, 1};
        for (int i = 0; i < 6; i++) {
            Check.due("WHISPER " + i, x.said(i, 3), whispered[i]);
        }
        int[][] known = {{0, 2, 2, 2, 2, 2, 2}, {0, 2, 2, 2, 2, 2, 2}, {0, 0, 0, 2, 2, 2, 2}, {0, 0, 0, 0, 2, 2, 2}, {0, 0, 0, 0, 0, 0, 0},
            {0, 0, 0, 0, 0, 0, 4}};
        for (int p = 0; p < 6; p++) {
            for (int n = 0; n <= 6; n++) {
                Check.due("ONE " + p + " behind " + n, x.knows(p, n), known[p][n]);
            }
        }
        HallAnswers again = Check.hall(ROW + "whisper 0 0 1;whisper 0 0 1;");
        Check.eachDue("who KNOWS it whispers it again", Check.row(1, 1, 2), again.said(0, 3), again.said(1, 3), again.knows(1, 2));
        HallAnswers alone = Check.hall(ROW + "whisper 0 5 1;whisper 0 0 1;whisper 0 5 1;");
        Check.eachDue("he KNOWS it though nobody HEARS him", Check.row(1, 0, 1, 0), alone.said(0, 3), alone.said(1, 3), alone.said(2, 3),
                alone.knows(0, 3));
        HallAnswers empty = Check.hall(ROW + "people 2;whisper 0 1 0;");
        Check.eachDue("a BENCH of nobody HEARS, and KNOWS nothing", Check.row(4, 0, 1), empty.heard(1, 0), empty.knows(0, 1), empty.knows(1, 1));
    }

    private static void inItsHour() {
        HallAnswers x = Check.hall("hall 9 3;fade 20;bounce 50;bench 4 0 0 80turned;bench 5 0 0 80;bench 3 0 0 80;whisper 0 0 0;"
                + "whisper 2 0 0;whisper 6 0 0;whisper 10 0 1;whisper 11 0 2;");
        Check.eachDue("by the HOUR of each", Check.row(1, 1, 2, 3, Check.NONE, Check.NONE), x.leak(0, 1, 0),
                x.since(1, 0), x.since(2, 0), x.since(1, 1), x.since(2, 1), x.since(1, 2));
        x.warm(1);
        Check.eachDue("by the hall as it is now", Check.row(Check.NONE, Check.NONE), x.since(1, 0), x.since(2, 0));
        x.warm(0);
        x.hang(14, 1);
        x.sit(1, 2);
        Check.eachDue("by the seats as they are now", Check.row(2, 1), x.since(1, 0), x.since(2, 0));
    }

    private static void allSecrets() {
        HallAnswers x = Check.hall(ROW);
        for (int secret = 0; secret < 8; secret++) {
            Check.due("SECRET " + secret, x.say(0, 0, secret), secret + 1);
        }
        for (int n = 0; n <= 8; n++) {
            Check.eachDue("behind " + n, Check.row((1 << n) - 1, (1 << n) - 1, 0), x.knows(0, n), x.knows(1, n), x.knows(2, n));
        }
    }

    private static void sayTakes() {
        Check.about("Promise 26", "A WHISPER more (HOUR no less than that of the one ahead): how many there are.");
        HallAnswers x = Check.hall(ROW);
        int[] hours = {0, 0, 1, 1, 5, 5, 5, 10, 11, 11, 11, 11};
        for (int i = 0; i < 12; i++) {
            if (i > 0) {
                Check.due("an HOUR less", x.say(hours[i - 1] - 1, 0, 0), Check.BAD);
            }
            Check.due("WHISPER " + i, x.say(hours[i], i % 6, i % 8), i + 1);
            Check.eachDue("as it was said", Check.row(hours[i], i % 6, i % 8), x.said(i, 0), x.said(i, 1), x.said(i, 2));
        }
        HallAnswers y = Check.hall(ROW + "whisper 7 0 0;");
        Check.eachDue("behind one that was told", Check.row(Check.BAD, 2, Check.BAD, 3), y.say(6, 0, 0), y.say(7, 0, 0), y.say(6, 0, 0),
                y.say(11, 0, 0));
        HallAnswers m = Check.hall(ROW);
        m.murmur(1, 2, 8);
        Check.eachDue("behind a murmur", Check.row(Check.BAD, 3), m.say(7, 0, 0), m.say(8, 0, 0));
    }

    private static void sayRefuses() {
        Check.about("Promise 26", "BAD; FULL.");
        int[][] bad = {{-1, 0, 0}, {12, 0, 0}, {4, -1, 0}, {4, 6, 0}, {4, 0, -1}, {4, 0, 8}, {3, 0, 0}, {0, 0, 0},
            {Integer.MIN_VALUE, 0, 0}, {Integer.MAX_VALUE, 0, 0}, {4, Integer.MIN_VALUE, 0}, {4, Integer.MAX_VALUE, 0},
            {4, 0, Integer.MIN_VALUE}, {4, 0, Integer.MAX_VALUE}};
        for (int[] a : bad) {
            Twins.refused("say" + Arrays.toString(a), Check.BAD, Halls::rich, x -> x.say(a[0], a[1], a[2]));
            Twins.refused("BAD ahead of FULL, say" + Arrays.toString(a), Check.BAD, Halls::full, x -> x.say(a[0], a[1], a[2]));
        }
        Check.due("the last that is taken", Halls.rich().say(4, 5, 7), 5);
        Twins.refused("the 13th", Check.FULL, Halls::full, x -> x.say(11, 0, 0));
        Twins.refused("the 13th", Check.FULL, Halls::full, x -> x.say(11, 5, 7));
        HallAnswers x = Halls.full();
        x.unsay(11);
        Check.eachDue("the 12th", Check.row(12, Check.FULL), x.say(11, 0, 0), x.say(11, 0, 0));
        Check.due("no PEOPLE", Check.hall(ROW + "people 0;").say(0, 0, 0), Check.BAD);
    }

    private static void unsay() {
        Check.about("Promise 27", "WHISPERS are the first n alone: how many there were. BAD (n above that, too).");
        for (int n = 0; n <= 12; n++) {
            HallAnswers x = Halls.full();
            Check.eachDue("the first " + n, Check.row(12, n, Check.BAD), x.unsay(n), x.count(4), x.said(n, 0));
            Check.due("the last of them", n == 0 ? 0 : x.said(n - 1, 0), n == 0 ? 0 : Halls.full().said(n - 1, 0));
            Check.due("as many again", x.unsay(n), n);
            Check.due("one more", x.unsay(n + 1), Check.BAD);
        }
        for (int n : new int[]{-1, 5, 6, 12, 13, Integer.MIN_VALUE, Integer.MAX_VALUE}) {
            Twins.refused("unsay(" + n + ") of four", Check.BAD, Halls::rich, x -> x.unsay(n));
        }
        Twins.refused("unsay(13) of twelve", Check.BAD, Halls::full, x -> x.unsay(13));
        Twins.refused("unsay(1) of none", Check.BAD, Halls::empty, x -> x.unsay(1));
        HallAnswers x = Check.hall(ROW + "whisper 3 0 1;whisper 9 0 2;");
        x.unsay(1);
        Check.eachDue("what is gone does not count", Check.row(Check.BAD, 2, Check.NONE), x.say(2, 0, 0), x.say(3, 0, 0), x.since(0, 2));
        x.unsay(0);
        Check.due("nor does the first one", x.say(0, 0, 0), 1);
    }

    private static void said() {
        Check.about("Promise 28", "Of a WHISPER: 0 HOUR, 1 ONE, 2 SECRET, 3 whether it is whispered. BAD.");
        HallAnswers x = Halls.full();
        Check.eachDue("the first", Check.row(0, 0, 0, 1), x.said(0, 0), x.said(0, 1), x.said(0, 2), x.said(0, 3));
        Check.eachDue("the last", Check.row(7, 5, 3), x.said(11, 0), x.said(11, 1), x.said(11, 2));
        int[][] bad = {{-1, 0}, {4, 0}, {12, 0}, {0, -1}, {0, 4}, {Integer.MIN_VALUE, 3}, {Integer.MAX_VALUE, 3}, {0, Integer.MAX_VALUE}};
        for (int[] a : bad) {
            Twins.refused("said" + Arrays.toString(a), Check.BAD, Halls::rich, y -> y.said(a[0], a[1]));
        }
        Twins.refused("behind the last of twelve", Check.BAD, Halls::full, y -> y.said(12, 3));
        HallAnswers leftOut = Check.hall(ROW + "whisper 0 0 1;whisper 0 5 1;");
        Check.eachDue("whispered, not whispered", Check.row(1, 0), leftOut.said(0, 3), leftOut.said(1, 3));
    }

    private static void knows() {
        Check.about("Promise 29", "SECRETS that a ONE KNOWS behind the first n WHISPERS (bits). BAD (n above how many there are, too).");
        HallAnswers x = Check.hall(ROW + "whisper 0 4 7;whisper 0 4 0;");
        Check.eachDue("the last ONE", Check.row(0, 128, 129, Check.BAD), x.knows(5, 0), x.knows(5, 1), x.knows(5, 2), x.knows(5, 3));
        int[][] bad = {{-1, 0}, {6, 0}, {0, -1}, {0, 5}, {0, 12}, {0, 13}, {Integer.MIN_VALUE, 0}, {Integer.MAX_VALUE, 0},
            {0, Integer.MIN_VALUE}, {0, Integer.MAX_VALUE}};
        for (int[] a : bad) {
            Twins.refused("knows" + Arrays.toString(a), Check.BAD, Halls::rich, y -> y.knows(a[0], a[1]));
        }
        Twins.refused("13 of twelve", Check.BAD, Halls::full, y -> y.knows(0, 13));
        Check.due("none of none", Check.hall(ROW).knows(5, 0), 0);
        Check.due("one of none", Check.hall(ROW).knows(5, 1), Check.BAD);
    }

    private static void since() {
        Check.about("Promise 30", "The WHISPER by which a ONE KNOWS a SECRET first. BAD; NONE: he never does.");
        HallAnswers x = Check.hall(ROW + "whisper 0 0 7;whisper 0 0 0;whisper 0 1 7;whisper 0 0 7;");
        for (int i = 4; i < 11; i++) {
            x.say(0, 0, 1);
        }
        x.say(11, 2, 7);
        Check.eachDue("the first, the last WHISPER", Check.row(0, 0, 2, 11, Check.NONE, 1, 4, Check.NONE), x.since(0, 7), x.since(1, 7),
                x.since(2, 7), x.since(3, 7), x.since(4, 7), x.since(0, 0), x.since(0, 1), x.since(5, 0));
        int[][] bad = {{-1, 0}, {6, 0}, {0, -1}, {0, 8}, {Integer.MIN_VALUE, 0}, {Integer.MAX_VALUE, 0}, {0, Integer.MIN_VALUE},
            {0, Integer.MAX_VALUE}, {6, 8}};
        for (int[] a : bad) {
            Twins.refused("since" + Arrays.toString(a), Check.BAD, Halls::rich, y -> y.since(a[0], a[1]));
        }
        Twins.refused("he never does", Check.NONE, () -> Check.hall(ROW + "whisper 0 0 0;"), y -> y.since(5, 0));
        Twins.refused("no WHISPERS", Check.NONE, () -> Check.hall(ROW), y -> y.since(5, 7));
    }

    private static void leak() {
        Check.about("Promise 31", "Some PEOPLE (bits) may KNOW a SECRET: the first WHISPER behind which somebody else does (what 0), who "
                + "whispered (1), who else KNOWS it by that (2; bits).");
        HallAnswers x = Check.hall(ROW + "whisper 0 3 0;whisper 0 0 7;whisper 0 5 7;whisper 0 1 7;whisper 0 2 7;");
        int[] some = {0, 1, 2, 3, 7, 15, 63, 60, 62};
        int[] first = {1, 1, 1, 3, 4, Check.NONE, Check.NONE, 1, 1};
        int[] who = {0, 0, 0, 1, 2, Check.NONE, Check.NONE, 0, 0};
        int[] else_ = {3, 2, 1, 4, 8, Check.NONE, Check.NONE, 3, 1};
        for (int i = 0; i < some.length; i++) {
            Check.eachDue("SECRET 7, some " + some[i], Check.row(first[i], who[i], else_[i]), x.leak(7, some[i], 0), x.leak(7, some[i], 1),
                    x.leak(7, some[i], 2));
        }
        Check.eachDue("SECRET 0", Check.row(0, 3, 24, 16, 8, Check.NONE), x.leak(0, 0, 0), x.leak(0, 0, 1), x.leak(0, 0, 2),
                x.leak(0, 8, 2), x.leak(0, 16, 2), x.leak(0, 24, 2));
        HallAnswers late = Check.hall(ROW);
        for (int i = 0; i < 11; i++) {
            late.say(0, 5, i % 7);
        }
        late.say(0, 4, 7);
        Check.eachDue("the last WHISPER", Check.row(11, 4, 48, 32), late.leak(7, 0, 0), late.leak(7, 0, 1), late.leak(7, 0, 2), late.leak(7, 16, 2));
    }

    private static void leakRefuses() {
        Check.about("Promise 31", "BAD; NONE: none.");
        int[][] bad = {{-1, 0, 0}, {8, 0, 0}, {0, -1, 0}, {0, 64, 0}, {0, 65, 0}, {0, 0, -1}, {0, 0, 3}, {Integer.MIN_VALUE, 0, 0},
            {Integer.MAX_VALUE, 0, 0}, {0, Integer.MIN_VALUE, 0}, {0, Integer.MAX_VALUE, 0}, {0, 0, Integer.MAX_VALUE}};
        for (int[] a : bad) {
            Twins.refused("leak" + Arrays.toString(a), Check.BAD, Halls::rich, y -> y.leak(a[0], a[1], a[2]));
        }
        for (int what = 0; what < 3; what++) {
            int w = what;
            Twins.refused("all may KNOW it", Check.NONE, Halls::full, y -> y.leak(0, 63, w));
            Twins.refused("nobody KNOWS it", Check.NONE, () -> Check.hall(ROW + "whisper 0 0 0;"), y -> y.leak(7, 0, w));
            Twins.refused("no WHISPERS", Check.NONE, () -> Check.hall(ROW), y -> y.leak(0, 0, w));
        }
        HallAnswers two = Check.hall(ROW + "people 2;whisper 0 0 0;");
        Check.eachDue("as many as there are", Check.row(Check.NONE, Check.BAD, 2), two.leak(0, 3, 0), two.leak(0, 4, 0), two.leak(0, 1, 2));
    }

    private static void without() {
        Check.about("Promise 32", "Without WHISPER i (those behind it as told): how many fewer KNOW its SECRET behind all of them");
        HallAnswers x = Check.hall(ROW + "whisper 0 0 1;whisper 0 1 1;whisper 0 2 1;whisper 0 0 1;whisper 0 5 1;whisper 0 5 2;");
        // without the first, ONE 1 lets it out himself
        Check.eachDue("each of them", Check.row(1, 2, 1, 0, 0, 1), x.without(0), x.without(1), x.without(2), x.without(3), x.without(4),
                x.without(5));
        Check.due("all are there still", x.count(4), 6);
        HallAnswers last = Halls.full();
        Check.due("the last of twelve", last.without(11) >= 0 ? 1 : 0, 1);
        HallAnswers one = Check.hall(ROW + "whisper 0 0 0;");
        Check.due("the only one", one.without(0), 2);
        for (int i : new int[]{-1, 4, 12, Integer.MIN_VALUE, Integer.MAX_VALUE}) {
            Twins.refused("without(" + i + ")", Check.BAD, Halls::rich, y -> y.without(i));
        }
        Twins.refused("without(12) of twelve", Check.BAD, Halls::full, y -> y.without(12));
        Twins.refused("without(0) of none", Check.BAD, () -> Check.hall(ROW), y -> y.without(0));
    }

    private static void withoutBelowNought() {
        Check.about("Promise 32", "100 less than that, if it is below 0. BAD.");
        String told = ROW + "whisper 0 5 1;whisper 0 4 1;";
        Check.due("one more KNOWS it", Check.hall(told).without(0), -101);
        Check.due("three more KNOW it", Check.hall(ROW + "whisper 0 5 1;whisper 0 2 1;whisper 0 3 1;whisper 0 4 1;").without(0), -103);
        HallAnswers most = Check.hall(ROW + "whisper 0 5 1;");
        for (int p = 0; p < 5; p++) {
            most.say(0, p, 1);
        }
        Check.due("five more KNOW it", most.without(0), -105);
        HallAnswers same = Check.hall(ROW + "people 5;whisper 0 3 1;whisper 0 0 1;");
        Check.due("as many: 0 is not below 0", same.without(0), 0);
    }

    private static void murmurDraws() {
        Check.about("Promise 33", "n WHISPERS (1 to 12) by a seed in HOUR h, in place of those there are: for each the seed becomes seed times "
                + "1103515245 and 12345; bits 16 to 30 of it modulo PEOPLE whispers, then, the seed changed likewise once more, modulo 8 the "
                + "SECRET: how many are whispered.");
        int[] seeds = {0, 1, -1, 5, 12345, 65535, 65536, Integer.MIN_VALUE, Integer.MAX_VALUE, 0x7fff0000, 0x80000001};
        for (int seed : seeds) {
            for (int people = 1; people <= 6; people++) {
                HallAnswers x = Check.hall(ROW + "people " + people + ";whisper 2 0 3;");
                long drawn = seed & 0xffffffffL;
                int whispered = x.murmur(seed, 12, 11);
                int told = 0;
                for (int i = 0; i < 12; i++) {
                    drawn = (drawn * 1103515245L + 12345L) % 4294967296L;
                    long one = drawn / 65536 % 32768 % people;
                    drawn = (drawn * 1103515245L + 12345L) % 4294967296L;
                    Check.eachDue("seed " + seed + ", WHISPER " + i, Check.row(11, one, drawn / 65536 % 32768 % 8), x.said(i, 0), x.said(i, 1),
                            x.said(i, 2));
                    told += x.said(i, 3);
                }
                Check.eachDue("seed " + seed, Check.row(told, 12), whispered, x.count(4));
            }
        }
        // by hand: 0 becomes 12345, whose bits 16 to 30 are 0; that becomes 3554416254, whose are 21468: 4 modulo 8
        HallAnswers x = Halls.full();
        Check.eachDue("one, in HOUR 0, though others were later", Check.row(1, 1, 0, 0, 4), x.murmur(0, 1, 0), x.count(4), x.said(0, 0),
                x.said(0, 1), x.said(0, 2));
        Twins.same("all is as before but WHISPERS", () -> {
            HallAnswers y = Halls.full();
            y.unsay(0);
            y.say(0, 0, 4);
            return y;
        }, y -> y.murmur(0, 1, 0));
    }

    private static void murmurRefuses() {
        Check.about("Promise 33", "BAD; STATE: there are no PEOPLE.");
        int[][] bad = {{0, 0, 0}, {0, 13, 0}, {0, -1, 0}, {0, 1, -1}, {0, 1, 12}, {0, Integer.MIN_VALUE, 0}, {0, Integer.MAX_VALUE, 0},
            {0, 1, Integer.MIN_VALUE}, {0, 1, Integer.MAX_VALUE}};
        for (int[] a : bad) {
            Twins.refused("murmur" + Arrays.toString(a), Check.BAD, Halls::rich, x -> x.murmur(a[0], a[1], a[2]));
            Twins.refused("BAD ahead of STATE, murmur" + Arrays.toString(a), Check.BAD, Halls::empty, x -> x.murmur(a[0], a[1], a[2]));
        }
        Twins.refused("no PEOPLE", Check.STATE, Halls::empty, x -> x.murmur(1, 12, 11));
        Twins.refused("no PEOPLE on BENCHES", Check.STATE, () -> Check.hall(ROW + "people 0;"), x -> x.murmur(1, 1, 0));
    }
}
