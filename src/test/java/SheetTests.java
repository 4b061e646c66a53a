/** Promises 36 to 42: IMAGES, SHEETS, what the machine finds, how many there are. */
public final class SheetTests {
    private static final String TWO = "bench 0 0 2 1;bench 1 0 2 1;bench 2 0 2 1;people 2;";

    public static void main(String[] args) {
        keepAndBack();
        sheet();
        lay();
        lanes();
        readWhole();
        readTorn();
        readRefused();
        readBad();
        count();
        Check.finish("SheetTests");
    }

    private static void keepAndBack() {
        HallAnswers x = Check.hall(TWO + "pillar 3 3;whisper 2 0 1;fade 4;");
        Check.due("back to nothing", x.back(0), Check.STATE);
        Check.due("keep 0", x.keep(0), 0);
        x.hang(30, 2);
        x.hang(31, 1);
        x.warm(5);
        x.sit(0, 2);
        x.say(3, 1, 4);
        Check.due("keep 1", x.keep(1), 0);
        Check.due("back to 0", x.back(0), 1);
        Check.due("pillar", x.cell(30), 1);
        Check.due("free", x.cell(31), 0);
        Check.due("warm", x.rule(4), 0);
        Check.due("who sits where", x.bench(0, 0, 4), 0);
        Check.due("nobody there", x.bench(2, 0, 4), Check.NONE);
        Check.due("whispers", x.count(4), 1);
        Check.due("back to 1", x.back(1), 2);
        Check.due("curtain", x.cell(30), 2);
        Check.due("pillar", x.cell(31), 1);
        Check.due("warm", x.rule(4), 5);
        Check.due("who sits where", x.bench(2, 0, 4), 0);
        Check.due("the whisper", x.said(1, 2), 4);
        Check.due("keep 0 again", x.keep(0), 1);
        x.unsay(0);
        x.warm(1);
        Check.due("back to the later one", x.back(0), 2);
        Check.due("warm", x.rule(4), 5);
        Check.due("an image may be gone back to again", x.back(0), 2);
        Check.due("fade", x.rule(2), 4);
        Check.allDue("keep, back", Check.BAD, x.keep(-1), x.keep(2), x.back(-1), x.back(2), x.keep(Integer.MIN_VALUE));
    }

    private static void sheet() {
        HallAnswers x = new HallAnswers();
        Check.due("of nothing", x.count(7), Check.NONE);
        Check.due("of 0 CELLS", x.sheet(0, 0, 0), 1);
        Check.due("of 0 CELLS", x.count(7), 0);
        Check.due("of 40 CELLS", x.sheet(0, 2, 40), 1);
        Check.due("of 40 CELLS", x.count(7), 40);
        Check.due("the last", x.lay(0, 39, 1), 1);
        Check.allDue("sheet", Check.BAD, x.sheet(-1, 0, 1), x.sheet(4, 0, 1), x.sheet(0, -1, 1), x.sheet(0, 3, 1),
                x.sheet(0, 0, 41), x.sheet(4, 0, -1), x.sheet(0, 3, -1), x.sheet(0, 0, Integer.MAX_VALUE));
        Check.allDue("below 0", -14, x.sheet(0, 0, -1), x.sheet(3, 2, Integer.MIN_VALUE));
        Check.due("as it was", x.count(7), 40);
        for (int k = 0; k < 4; k++) {
            Check.due("each is a SHEET", x.sheet(k, k % 3, 3 + k), 1);
            Check.due("its end", x.lay(k, 3 + k, 0), -12);
        }
        HallAnswers y = Check.hall(TWO);
        y.sheet(1, 0, 3);
        y.lay(1, 0, 5);
        y.sheet(1, 0, 3);
        Check.due("a new row", y.read(1, 0, 0, 1), 1);
        Check.due("is of 0", y.said(0, 0), 0);
    }

    private static void lay() {
        HallAnswers x = new HallAnswers();
        x.sheet(2, 1, 2);
        Check.due("first", x.lay(2, 0, 7), 1);
        Check.due("last", x.lay(2, 1, 7), 1);
        Check.allDue("INDEX", -12, x.lay(2, 2, 7), x.lay(2, -1, 7), x.lay(2, Integer.MAX_VALUE, 7), x.lay(2, Integer.MIN_VALUE, 7));
        Check.allDue("NULL", -11, x.lay(0, 0, 7), x.lay(1, -1, 7), x.lay(3, 100, 7));
        Check.allDue("lay", Check.BAD, x.lay(-1, 0, 7), x.lay(4, 0, 7));
    }

    /** What a CELL keeps of a number is seen by which whispers say() takes. */
    private static void lanes() {
        int[] values = {1, 257, 65537, 128, 32768, 255, 65535, -256, 1 << 31};
        for (int v : values) {
            int[] kept = {(byte) v, (short) v, v};
            for (int lane = 0; lane < 3; lane++) {
                HallAnswers x = Check.hall(TWO);
                x.sheet(0, lane, 3);
                x.lay(0, 0, v);
                boolean taken = kept[lane] >= 0 && kept[lane] <= 11;
                Check.due("lane " + lane + " of " + v, x.read(0, lane, 0, 1), taken ? 1 : -20);
                Check.due("lane " + lane + " of " + v, x.said(0, 0), taken ? kept[lane] : Check.BAD);
            }
        }
    }

    private static HallAnswers withSheet(int cells, int... values) {
        HallAnswers x = Check.hall(TWO);
        x.sheet(3, 2, cells);
        for (int i = 0; i < values.length; i++) {
            x.lay(3, i, values[i]);
        }
        return x;
    }

    private static void readWhole() {
        HallAnswers x = withSheet(10, 9, 1, 0, 7, 2, 1, 3, 11, 1, 6);
        Check.due("from CELL 1 on", x.read(3, 2, 1, 3), 3);
        int[] said = {1, 0, 7, 2, 1, 3, 11, 1, 6};
        for (int i = 0; i < 9; i++) {
            Check.due("said " + i, x.said(i / 3, i % 3), said[i]);
        }
        Check.due("no FAULT", x.torn(), 0);
        HallAnswers y = withSheet(36);
        Check.due("twelve", y.read(3, 2, 0, 12), 12);
        Check.due("twelve", y.count(4), 12);
    }

    private static void readTorn() {
        HallAnswers x = withSheet(7, 1, 0, 7, 2, 1, 3, 4);
        Check.due("two are whole", x.read(3, 2, 0, 3), 2);
        Check.due("INDEX", x.torn(), 2);
        Check.due("two came", x.count(4), 2);
        Check.due("below 0", x.read(3, 2, -1, 1), 0);
        Check.due("INDEX", x.torn(), 2);
        Check.due("n 0", x.read(0, 0, -5, 0), 0);
        Check.due("no FAULT", x.torn(), 0);
        Check.due("another lane", x.read(3, 1, 0, 1), 0);
        Check.due("CAST", x.torn(), 3);
        Check.due("n 0 of another lane", x.read(3, 1, 0, 0), 0);
        Check.due("no FAULT", x.torn(), 0);
        Check.due("nothing", x.read(0, 0, 0, 1), 0);
        Check.due("NULL", x.torn(), 1);
        Check.allDue("far away", 0, x.read(3, 2, Integer.MAX_VALUE, 12), x.read(3, 2, Integer.MIN_VALUE, 12),
                x.read(3, 2, Integer.MAX_VALUE - 1, 2), x.read(3, 2, 5, 1), x.read(3, 2, 7, 1));
        Check.due("two as before", x.count(4), 2);
        x.sheet(1, 0, 0);
        Check.due("of no CELLS", x.read(1, 0, 0, 1), 0);
        Check.due("INDEX", x.torn(), 2);
    }

    private static void readRefused() {
        HallAnswers x = withSheet(9, 5, 0, 7, 4, 1, 3, 6, 1, 1);
        x.read(0, 0, 0, 1);
        Check.due("an earlier hour", x.read(3, 2, 0, 3), -21);
        Check.due("none came", x.count(4), 0);
        Check.due("torn is left", x.torn(), 1);
        x.lay(3, 3, 5);
        x.lay(3, 7, 2);
        Check.due("no such ONE", x.read(3, 2, 0, 3), -22);
        x.lay(3, 2, 8);
        Check.due("no such SECRET: the first met", x.read(3, 2, 0, 3), -20);
        Check.due("refused ahead of the end", x.read(3, 2, 0, 12), -20);
        x.lay(3, 2, 7);
        x.lay(3, 7, 1);
        Check.due("all come, then the end", x.read(3, 2, 0, 12), 3);
        Check.due("INDEX", x.torn(), 2);
        Check.due("the one ahead is of hour 6", x.read(3, 2, 0, 1), -20);
        for (int i = 3; i < 11; i++) {
            x.say(6, 0, 0);
        }
        Check.due("full by the second", x.read(3, 2, 6, 1), 1);
        Check.due("full", x.read(3, 2, 6, 1), -20);
        x.unsay(11);
        x.lay(3, 0, 6);
        x.lay(3, 3, 6);
        Check.due("full by the second", x.read(3, 2, 0, 2), -21);
        Check.due("none of them came", x.count(4), 11);
    }

    private static void readBad() {
        HallAnswers x = withSheet(3);
        x.read(3, 2, 1, 1);
        Check.allDue("read", Check.BAD, x.read(-1, 2, 0, 1), x.read(4, 2, 0, 1), x.read(3, -1, 0, 1), x.read(3, 3, 0, 1),
                x.read(3, 2, 0, -1), x.read(3, 2, 0, 13), x.read(4, 0, 0, 0), x.read(3, 3, 0, 0));
        Check.due("torn is left", x.torn(), 2);
        Check.due("none came", x.count(4), 0);
    }

    private static void count() {
        HallAnswers x = Check.hall(TWO + "pillar 3 3;curtain 4 4;join 0 1;bar 0 1;bar 1 0;whisper 0 0 0;");
        x.keep(1);
        x.feed(0);
        x.sheet(0, 0, 17);
        x.hang(0, 0);
        x.hang(20, 2);
        x.hang(62, 1);
        Check.due("the first CELL, the last", Check.hall("pillar 0 0;curtain 8 6;").count(2), 2);
        int[] counts = {3, 2, 4, 3, 1, 1, 8, 17};
        for (int what = 0; what < counts.length; what++) {
            Check.due("count " + what, x.count(what), counts[what]);
        }
        x.keep(0);
        Check.due("two images", x.count(5), 2);
        Check.allDue("count", Check.BAD, x.count(-1), x.count(8), x.count(Integer.MIN_VALUE));
    }
}
