import java.util.Arrays;

/** The edges of SHEETS (Terms) and of promises 36 to 42: IMAGES, SHEETS, what the machine finds, how many there are. */
public final class SheetEdgeTests {
    private static final String TWO = "bench 0 0 2 1;bench 1 0 2 1;bench 2 0 2 1;people 2;";

    public static void main(String[] args) {
        keep();
        keepAll();
        back();
        sheetTakes();
        sheetIsNew();
        sheetRefuses();
        lay();
        bytes();
        shorts();
        ints();
        readTakes();
        readOfTheMachine();
        readFaultsInOrder();
        readByLanes();
        readOfNone();
        readRefusedBySay();
        readRefusedWhenFull();
        readBad();
        torn();
        count();
        Check.finish("SheetEdgeTests");
    }

    private static void keep() {
        Check.about("Promise 36", "IMAGE k (0, 1) is CELLS, warm, who sits where, WHISPERS: whether there was one (1, 0). BAD.");
        HallAnswers x = new HallAnswers();
        Check.eachDue("each by itself", Check.row(0, 1, 1, 0, 2, 1, 1, 2), x.keep(1), x.count(5), x.keep(1), x.keep(0), x.count(5), x.keep(0),
                x.keep(1), x.count(5));
        for (int k : new int[]{-1, 2, 3, Integer.MIN_VALUE, Integer.MAX_VALUE}) {
            Twins.refused("keep(" + k + ")", Check.BAD, Halls::rich, y -> y.keep(k));
            Twins.refused("back(" + k + ")", Check.BAD, Halls::rich, y -> y.back(k));
        }
        Check.about("Terms", "IMAGES are gone");
        x.text();
        Check.eachDue("none was there then", Check.row(0, 0, 0), x.count(5), x.keep(0), x.keep(1));
    }

    private static void keepAll() {
        Twins.alike("an IMAGE of all that calls can change", 0, 5, Halls::full, () -> {
            HallAnswers x = Halls.full();
            x.keep(0);
            spoil(x);
            x.back(0);
            return x;
        });
        Twins.alike("the other one", 0, 5, Halls::full, () -> {
            HallAnswers x = Halls.full();
            x.keep(1);
            spoil(x);
            x.keep(0);
            x.back(1);
            return x;
        });
        Twins.alike("back() leaves both IMAGES", 6, 7, Halls::rich, () -> {
            HallAnswers x = Halls.rich();
            x.back(0);
            spoil(x);
            x.back(1);
            spoil(x);
            return x;
        });
        Twins.alike("THE TAPE, SHEETS are none of it", 8, 12, () -> {
            HallAnswers x = Halls.rich();
            x.back(0);
            return x;
        }, () -> {
            HallAnswers x = Halls.rich();
            x.keep(1);
            x.back(0);
            return x;
        });
    }

    private static void spoil(HallAnswers x) {
        for (int c = 0; c < 81; c++) {
            x.hang(c, x.cell(c) == 1 ? 0 : 1);
        }
        x.warm(9);
        for (int p = 0; p < 6; p++) {
            x.sit(p, 7 - p);
        }
        x.murmur(77, 11, 9);
    }

    private static void back() {
        Check.about("Promise 37", "All is as IMAGE k: how many WHISPERS. BAD; STATE: there is none.");
        HallAnswers x = Halls.full();
        Check.eachDue("how many there are then", Check.row(2, 3, 2, 2), x.back(0), x.back(1), x.back(0), x.count(4));
        HallAnswers twelve = Halls.full();
        twelve.keep(0);
        twelve.unsay(0);
        Check.eachDue("twelve", Check.row(12, Check.FULL), twelve.back(0), twelve.say(11, 0, 0));
        for (int k = 0; k < 2; k++) {
            int none = k;
            Twins.refused("back(" + k + ") of none", Check.STATE, Halls::empty, y -> y.back(none));
            Twins.refused("back(" + k + ") of none, though there is another", Check.STATE, () -> {
                HallAnswers y = Check.hall(Halls.RICH);
                y.keep(1 - none);
                y.warm(9);
                return y;
            }, y -> y.back(none));
            Twins.refused("it is gone by a text", Check.STATE, () -> {
                HallAnswers y = Halls.rich();
                y.end(0);
                Check.tell(y, Halls.RICH);
                return y;
            }, y -> y.back(none));
        }
    }

    private static void sheetTakes() {
        Check.about("Terms", "SHEETS 0 to 3 are rows of BYTES (lane 0), SHORTS (1), INTS (2), all with a sign, with 0 to 40 CELLS, or nothing "
                + "(at first).");
        for (int k = 0; k < 4; k++) {
            for (int lane = 0; lane < 3; lane++) {
                for (int n : new int[]{0, 1, 2, 39, 40}) {
                    HallAnswers x = new HallAnswers();
                    Check.eachDue("nothing at first", Check.row(-11, 1), x.lay(k, 0, 0), x.sheet(k, lane, n));
                    Check.eachDue("SHEET " + k + " of lane " + lane + ", " + n, Check.row(n == 0 ? -12 : 1, -12, -12), x.lay(k, n == 0 ? 0 : n - 1, 0),
                            x.lay(k, n, 0), x.lay(k, -1, 0));
                    Check.due("the others are nothing", x.lay((k + 1) % 4, 0, 0), -11);
                    Check.due("CELLS of SHEET 0", x.count(7), k == 0 ? n : Check.NONE);
                }
            }
        }
    }

    private static void sheetIsNew() {
        Check.about("Promise 38", "A SHEET is a new row of CELLS 0: 1.");
        HallAnswers x = Check.hall(TWO);
        for (int size = 0; size <= 40; size++) {
            Check.due("of " + size, x.sheet(1, 2, 40), 1);
            for (int i = 0; i < 6; i++) {
                x.lay(1, i, 1);
            }
            Check.due("of " + size, x.sheet(1, size % 3, size), 1);
            Check.due("all CELLS are 0", x.read(1, size % 3, 0, 1), size < 3 ? 0 : 1);
            Check.due("all CELLS are 0", x.said(0, 0), size < 3 ? Check.BAD : 0);
            x.unsay(0);
        }
        HallAnswers y = new HallAnswers();
        y.sheet(0, 0, 40);
        y.sheet(0, 0, 39);
        Check.eachDue("smaller", Check.row(39, -12, 1), y.count(7), y.lay(0, 39, 1), y.sheet(0, 0, 40));
        Check.eachDue("greater again", Check.row(40, 1), y.count(7), y.lay(0, 39, 1));
    }

    private static void sheetRefuses() {
        Check.about("Promise 38", "BAD: also n above 40; -14 (SIZE): n below 0.");
        int[][] bad = {{-1, 0, 0}, {4, 0, 0}, {0, -1, 0}, {0, 3, 0}, {0, 0, 41}, {3, 2, 42}, {0, 0, Integer.MAX_VALUE},
            {Integer.MIN_VALUE, 0, 0}, {0, Integer.MAX_VALUE, 0}, {4, 0, -1}, {-1, 0, -1}, {0, 3, -1}, {0, -1, -1}, {0, 3, 41}};
        for (int[] a : bad) {
            Twins.refused("sheet" + Arrays.toString(a), Check.BAD, Halls::rich, x -> x.sheet(a[0], a[1], a[2]));
        }
        for (int n : new int[]{-1, -2, -40, Integer.MIN_VALUE}) {
            for (int k = 0; k < 4; k++) {
                int s = k;
                Twins.refused("sheet(" + k + ", 2, " + n + ")", -14, Halls::rich, x -> x.sheet(s, 2, n));
            }
        }
        Check.eachDue("torn() is not of sheet()", Check.row(-14, 0), new HallAnswers().sheet(0, 0, -1), new HallAnswers().torn());
    }

    private static void lay() {
        Check.about("Promise 39", "CELL i of a SHEET becomes v (its lowest bits): 1. BAD: k; -10 less the FAULT: NULL, INDEX.");
        for (int k : new int[]{-1, 4, Integer.MIN_VALUE, Integer.MAX_VALUE}) {
            for (int i : new int[]{-1, 0, 40}) {
                Twins.refused("lay(" + k + ", " + i + ")", Check.BAD, Halls::rich, x -> x.lay(k, i, 1));
            }
        }
        for (int i : new int[]{-1, 0, 1, 40, Integer.MIN_VALUE, Integer.MAX_VALUE}) {
            Twins.refused("NULL, CELL " + i, -11, Halls::rich, x -> x.lay(3, i, 1));
        }
        int[] sizes = {9, 7, 5};
        for (int k = 0; k < 3; k++) {
            int s = k;
            for (int i : new int[]{-1, sizes[k], sizes[k] + 1, 39, 40, 41, Integer.MIN_VALUE, Integer.MAX_VALUE}) {
                Twins.refused("INDEX, SHEET " + k + ", CELL " + i, -12, Halls::rich, x -> x.lay(s, i, 1));
            }
            Check.eachDue("the first, the last", Check.row(1, 1), Halls.rich().lay(k, 0, 1), Halls.rich().lay(k, sizes[k] - 1, 1));
        }
        HallAnswers x = Check.hall(TWO);
        x.sheet(2, 2, 3);
        x.lay(2, 0, 5);
        x.lay(2, 1, 1);
        x.lay(2, 2, 7);
        x.lay(2, 0, 6);
        x.read(2, 2, 0, 1);
        Check.eachDue("the last that was laid there", Check.row(6, 1, 7), x.said(0, 0), x.said(0, 1), x.said(0, 2));
    }

    private static void bytes() {
        Check.about("Terms", "BYTES (lane 0), SHORTS (1), INTS (2), all with a sign");
        int[] values = {0, 11, 12, 127, 128, 255, 256, 256 + 11, 256 + 12, 65536 + 5, -256, -256 + 3, -1, -128, Integer.MIN_VALUE, Integer.MAX_VALUE};
        int[] kept = {0, 11, 12, 127, -128, -1, 0, 11, 12, 5, 0, 3, -1, -128, 0, -1};
        keeps(0, values, kept);
    }

    private static void shorts() {
        int[] values = {0, 11, 12, 256 + 5, 32767, 32768, 65535, 65536, 65536 + 11, 65536 + 12, -65536 + 4, -65536, -32768, -1, Integer.MIN_VALUE,
            Integer.MAX_VALUE};
        int[] kept = {0, 11, 12, 261, 32767, -32768, -1, 0, 11, 12, 4, 0, -32768, -1, 0, -1};
        keeps(1, values, kept);
    }

    private static void ints() {
        int[] values = {0, 11, 12, 256 + 5, 65536 + 5, -1, -256, -65536, Integer.MIN_VALUE, Integer.MAX_VALUE};
        keeps(2, values, values);
    }

    /** Which HOUR a CELL keeps: one that is none is refused by say(). */
    private static void keeps(int lane, int[] values, int[] kept) {
        for (int i = 0; i < values.length; i++) {
            HallAnswers x = Check.hall(TWO);
            x.sheet(0, lane, 3);
            Check.due("any number is laid", x.lay(0, 0, values[i]), 1);
            boolean isHour = kept[i] >= 0 && kept[i] <= 11;
            Check.eachDue("lane " + lane + " of " + values[i], Check.row(isHour ? 1 : -20, isHour ? kept[i] : Check.BAD), x.read(0, lane, 0, 1),
                    x.said(0, 0));
        }
    }

    private static HallAnswers withSheet(int cells, int... values) {
        HallAnswers x = Check.hall(TWO);
        x.sheet(3, 1, cells);
        for (int i = 0; i < values.length; i++) {
            x.lay(3, i, values[i]);
        }
        return x;
    }

    private static void readTakes() {
        Check.about("Promise 40", "n (0 to 12) WHISPERS (HOUR, ONE, SECRET) are read of a SHEET taken as of a lane, three CELLS each from CELL f "
                + "on, one behind another as by say(): how many came.");
        HallAnswers x = withSheet(40);
        Check.eachDue("twelve from CELL 4 on: the last is CELL 39", Check.row(12, 0, 12), x.read(3, 1, 4, 12), x.torn(), x.count(4));
        HallAnswers y = withSheet(40);
        Check.eachDue("from CELL 5 on the last is cut", Check.row(11, 2, 11), y.read(3, 1, 5, 12), y.torn(), y.count(4));
        HallAnswers z = withSheet(9, 3, 1, 2, 3, 0, 7, 11, 1, 0);
        Check.eachDue("one, from CELL 3 on", Check.row(1, 3, 0, 7, 0), z.read(3, 1, 3, 1), z.said(0, 0), z.said(0, 1), z.said(0, 2), z.torn());
        Check.eachDue("one, from the last CELL that is whole", Check.row(1, 11, 1, 0), z.read(3, 1, 6, 1), z.said(1, 0), z.said(1, 1), z.said(1, 2));
        HallAnswers behind = withSheet(3, 4, 0, 0);
        behind.say(4, 0, 0);
        Check.eachDue("behind those there are", Check.row(1, 2, 1), behind.read(3, 1, 0, 1), behind.count(4), behind.read(3, 1, 0, 1));
        Check.eachDue("it may be read again", Check.row(1, 4), behind.read(3, 1, 0, 1), behind.count(4));
    }

    private static void readOfTheMachine() {
        Check.about("Promise 40", "What the machine refuses: those that were whole ahead come (its FAULT is asked by torn()");
        for (int size = 0; size <= 8; size++) {
            for (int f = 0; f <= 9; f++) {
                HallAnswers x = withSheet(size);
                int whole = Math.max(0, (size - f) / 3);
                Check.eachDue("of " + size + " CELLS from CELL " + f, Check.row(whole, 2, whole), x.read(3, 1, f, 3), x.torn(), x.count(4));
            }
        }
        for (int f : new int[]{-1, -2, -3, Integer.MIN_VALUE, Integer.MIN_VALUE + 1, Integer.MAX_VALUE, Integer.MAX_VALUE - 1,
            Integer.MAX_VALUE - 2, Integer.MAX_VALUE - 3, Integer.MAX_VALUE - 33}) {
            HallAnswers x = withSheet(40);
            Check.eachDue("from CELL " + f, Check.row(0, 2, 0, 0, 2), x.read(3, 1, f, 12), x.torn(), x.count(4), x.read(3, 1, f, 1), x.torn());
        }
    }

    private static void readFaultsInOrder() {
        Check.about("Terms", "A FAULT is what the machine finds: 1 NULL (nothing), 2 INDEX, 3 CAST (another lane), 4 SIZE (below 0).");
        for (int lane = 0; lane < 3; lane++) {
            HallAnswers x = new HallAnswers();
            Check.eachDue("NULL, whatever the CELL", Check.row(0, 1, 0, 1), x.read(0, lane, 0, 1), x.torn(), x.read(3, lane, -1, 12), x.torn());
            x.sheet(1, lane, 0);
            Check.eachDue("INDEX of none", Check.row(0, 2), x.read(1, lane, 0, 1), x.torn());
            for (int other = 0; other < 3; other++) {
                if (other != lane) {
                    Check.eachDue("CAST, ahead of INDEX", Check.row(0, 3, 0, 3), x.read(1, other, 0, 1), x.torn(), x.read(1, other, -5, 12), x.torn());
                }
            }
        }
    }

    private static void readByLanes() {
        for (int k = 0; k < 4; k++) {
            for (int made = 0; made < 3; made++) {
                for (int taken = 0; taken < 3; taken++) {
                    HallAnswers x = Check.hall(TWO);
                    x.sheet(k, made, 6);
                    x.lay(k, 0, 9);
                    x.lay(k, 3, 10);
                    Check.eachDue("SHEET " + k + " of lane " + made + " as of " + taken, made == taken ? Check.row(2, 0, 10) : Check.row(0, 3, Check.BAD),
                            x.read(k, taken, 0, 2), x.torn(), x.said(1, 0));
                }
            }
        }
        HallAnswers x = Check.hall(TWO);
        x.sheet(0, 0, 3);
        x.sheet(0, 2, 3);
        Check.eachDue("a new row is of its own lane", Check.row(0, 3, 1, 0), x.read(0, 0, 0, 1), x.torn(), x.read(0, 2, 0, 1), x.torn());
    }

    private static void readOfNone() {
        Check.about("Promise 40", "of n 0: 0, no FAULT, whatever the SHEET is)");
        for (int k = 0; k < 4; k++) {
            for (int lane = 0; lane < 3; lane++) {
                for (int f : new int[]{0, -1, 40, Integer.MIN_VALUE, Integer.MAX_VALUE}) {
                    HallAnswers x = Halls.rich();
                    Check.eachDue("read(" + k + ", " + lane + ", " + f + ", 0)", Check.row(1, 0, 0, 4), x.torn(), x.read(k, lane, f, 0), x.torn(),
                            x.count(4));
                }
            }
        }
    }

    private static void readRefusedBySay() {
        Check.about("Promise 40", "-20 less i (from 0 on): WHISPER i, whole, is refused by say() (in whichever way): then none came; the first met.");
        int[][] refused = {{-1, 0, 0}, {12, 0, 0}, {4, 0, 0}, {5, -1, 0}, {5, 2, 0}, {5, 0, -1}, {5, 0, 8}};
        for (int i = 0; i < 12; i++) {
            for (int[] whisper : refused) {
                int at = i;
                Twins.refused("WHISPER " + i + " is " + Arrays.toString(whisper), -20 - i, () -> fives(at, whisper), x -> x.read(3, 1, 0, 12));
            }
        }
        HallAnswers second = fives(3, new int[]{5, 2, 0});
        Check.eachDue("it is not read so far", Check.row(3, 0, 3), second.read(3, 1, 0, 3), second.torn(), second.count(4));
        HallAnswers two = fives(3, new int[]{5, 2, 0});
        two.lay(3, 1, 2);
        Check.due("the first met", two.read(3, 1, 0, 12), -20);
        HallAnswers cut = withSheet(8, 5, 0, 0, 5, 0, 0, 99, 99);
        Check.eachDue("one that is not whole is not refused by say()", Check.row(2, 2), cut.read(3, 1, 0, 3), cut.torn());
        HallAnswers ahead = withSheet(8, 5, 0, 0, 5, 9, 0, 5, 0);
        Check.eachDue("ahead of one that is not whole", Check.row(-21, 0, 0), ahead.read(3, 1, 0, 3), ahead.torn(), ahead.count(4));
        HallAnswers nobody = Check.hall("");
        nobody.sheet(0, 0, 3);
        Check.due("no PEOPLE", nobody.read(0, 0, 0, 1), -20);
    }

    /** A SHEET of twelve WHISPERS in HOUR 5, but for one; torn() is 1, two IMAGES are kept. */
    private static HallAnswers fives(int i, int[] whisper) {
        HallAnswers x = withSheet(36);
        for (int j = 0; j < 12; j++) {
            x.lay(3, 3 * j, 5);
        }
        x.say(5, 0, 0);
        x.keep(0);
        x.unsay(0);
        x.keep(1);
        x.say(5, 1, 1);
        x.unsay(i == 0 ? 1 : 0);
        for (int part = 0; part < 3; part++) {
            x.lay(3, 3 * i + part, whisper[part]);
        }
        x.read(1, 0, 0, 1);
        return x;
    }

    private static void readRefusedWhenFull() {
        for (int there = 0; there <= 12; there++) {
            HallAnswers x = withSheet(36);
            for (int i = 0; i < there; i++) {
                x.say(0, 0, 0);
            }
            Check.eachDue("behind " + there, Check.row(there == 0 ? 12 : -20 - (12 - there), there == 0 ? 12 : there), x.read(3, 1, 0, 12), x.count(4));
            Check.eachDue("as many as there is room for", Check.row(there == 0 ? 0 : 12 - there, 12), x.read(3, 1, 0, there == 0 ? 0 : 12 - there),
                    x.count(4));
            Check.eachDue("one more", Check.row(-20, 12), x.read(3, 1, 0, 1), x.count(4));
        }
        Twins.refused("FULL", -20, () -> {
            HallAnswers x = Halls.full();
            x.sheet(3, 1, 3);
            x.lay(3, 0, 11);
            return x;
        }, x -> x.read(3, 1, 0, 1));
    }

    private static void readBad() {
        Check.about("Promise 40", "BAD: k, lane, n;");
        int[][] bad = {{-1, 0, 0, 1}, {4, 0, 0, 1}, {0, -1, 0, 1}, {0, 3, 0, 1}, {0, 0, 0, -1}, {0, 0, 0, 13}, {-1, 0, 0, 0}, {4, 0, 0, 0},
            {0, -1, 0, 0}, {0, 3, 0, 0}, {Integer.MIN_VALUE, 0, 0, 1}, {Integer.MAX_VALUE, 0, 0, 1}, {0, Integer.MIN_VALUE, 0, 1},
            {0, Integer.MAX_VALUE, 0, 1}, {0, 0, 0, Integer.MIN_VALUE}, {0, 0, 0, Integer.MAX_VALUE}, {3, 0, 0, 13}};
        for (int[] a : bad) {
            Twins.refused("read" + Arrays.toString(a), Check.BAD, Halls::rich, x -> x.read(a[0], a[1], a[2], a[3]));
        }
    }

    private static void torn() {
        Check.about("Promise 41", "The FAULT of the latest read() that answered 0 or more; 0 (one that is refused leaves it).");
        HallAnswers x = withSheet(4, 5, 0, 0);
        Check.eachDue("of none", Check.row(0, 0), x.torn(), new HallAnswers().torn());
        Check.eachDue("each, twice asked", Check.row(0, 1, 1, 0, 3, 3, 1, 2, 2, 1, 0, 0), x.read(0, 0, 0, 1), x.torn(), x.torn(),
                x.read(3, 2, 0, 1), x.torn(), x.torn(), x.read(3, 1, 0, 2), x.torn(), x.torn(), x.read(3, 1, 0, 1), x.torn(), x.torn());
        int[][] refused = {{3, 1, 1, 1}, {4, 1, 0, 1}, {3, 1, 0, 13}, {3, 3, 0, 0}};
        for (int[] a : refused) {
            x.read(0, 0, 0, 1);
            Check.eachDue("left by read" + Arrays.toString(a), Check.row(1, 1, 1), x.torn(), x.read(a[0], a[1], a[2], a[3]) < 0 ? 1 : 0, x.torn());
        }
        Check.eachDue("left by lay() and sheet(), too", Check.row(-11, -14, 1, 1), x.lay(0, 0, 0), x.sheet(0, 0, -1), x.sheet(1, 1, 1), x.torn());
        x.text();
        x.keep(0);
        x.back(0);
        Check.due("by all other calls", x.torn(), 1);
    }

    private static void count() {
        Check.about("Promise 42", "How many: 0 BENCHES, 1 PEOPLE, 2 DEAF CELLS, 3 WANTS, 4 WHISPERS, 5 IMAGES, 6 bytes on THE TAPE, 7 CELLS of "
                + "SHEET 0 (NONE: nothing). BAD.");
        HallAnswers full = Halls.full();
        Check.eachDue("of all", Check.row(8, 6, 3, 8, 12, 2, 13, 9), full.count(0), full.count(1), full.count(2), full.count(3), full.count(4),
                full.count(5), full.count(6), full.count(7));
        HallAnswers empty = new HallAnswers();
        Check.eachDue("of none", Check.row(0, 0, 0, 0, 0, 0, 0, Check.NONE), empty.count(0), empty.count(1), empty.count(2), empty.count(3),
                empty.count(4), empty.count(5), empty.count(6), empty.count(7));
        for (int what : new int[]{-1, 8, 9, Integer.MIN_VALUE, Integer.MAX_VALUE}) {
            Twins.refused("count(" + what + ")", Check.BAD, Halls::rich, x -> x.count(what));
        }
        empty.sheet(1, 0, 5);
        Check.due("SHEET 0 is nothing still", empty.count(7), Check.NONE);
        empty.sheet(0, 0, 0);
        Check.eachDue("no CELLS, forty", Check.row(0, 1, 40), empty.count(7), empty.sheet(0, 2, 40), empty.count(7));
    }
}
