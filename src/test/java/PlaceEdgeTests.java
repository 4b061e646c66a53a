import java.util.Arrays;

/** The edges of promises 34 and 35: from whom, from which CELLS it was HEARD. */
public final class PlaceEdgeTests {
    public static void main(String[] args) {
        from();
        fromRefuses();
        freeCells();
        someDirection();
        justSome();
        byTheirEars();
        onThatCell();
        inThatHour();
        whereRefuses();
        Check.finish("PlaceEdgeTests");
    }

    private static void from() {
        Check.about("Promise 34", "BENCHES from which just some BENCHES (bits) HEAR in an HOUR: these (bits).");
        String row = "";
        for (int i = 0; i < 8; i++) {
            row += "bench " + i + " 0 2 1;";
        }
        HallAnswers x = Check.hall("hall 9 3;fade 0;bounce 0;" + row);
        for (int b = 0; b < 8; b++) {
            Check.due("by all but BENCH " + b, x.from(255 - (1 << b), 11), 1 << b);
        }
        Check.eachDue("by nobody, by all, by one", Check.row(0, 0, 0), x.from(0, 0), x.from(255, 0), x.from(128, 0));
        HallAnswers none = Check.hall("hall 9 3;" + "bench 0 2 4 100;".repeat(8));
        Check.eachDue("all by nobody", Check.row(255, 0), none.from(0, 0), none.from(1, 0));
        HallAnswers some = Check.hall("hall 9 3;bench 0 0 2 50;bench 4 0 6 50;bench 8 0 6 88;bench 8 2 0 100;");
        Check.eachDue("just some: not more, not fewer", Check.row(1, 4, 2, 0, 8, 0), some.from(2, 0), some.from(3, 0), some.from(1, 0),
                some.from(7, 0), some.from(4, 0), some.from(0, 0));
    }

    private static void fromRefuses() {
        Check.about("Promise 34", "BAD.");
        int[][] bad = {{-1, 0}, {256, 0}, {0, -1}, {0, 12}, {Integer.MIN_VALUE, 0}, {Integer.MAX_VALUE, 0}, {255, 12}};
        for (int[] a : bad) {
            Twins.refused("from" + Arrays.toString(a), Check.BAD, Halls::rich, x -> x.from(a[0], a[1]));
        }
        for (int n = 0; n <= 8; n++) {
            HallAnswers x = Check.hall("hall 9 3;" + "bench 0 2 4 100;".repeat(n));
            Check.eachDue("all of " + n + " BENCHES, one more", Check.row(0, Check.BAD), x.from((1 << n) - 1, 0), x.from(1 << n, 0));
            Check.due("none of " + n + " BENCHES", x.from(0, 0), (1 << n) - 1);
        }
    }

    private static void freeCells() {
        Check.about("Promise 35", "Free CELLS from which a WHISPER in some DIRECTION is HEARD by just some BENCHES (bits, not 0;");
        HallAnswers x = Check.hall("hall 3 3;fade 20;bounce 50;bench 1 1 0 80;");
        Check.eachDue("all around it", Check.row(8, 0, 3), x.where(1, 0, 0), x.where(1, 0, 1), x.where(1, 0, 2));
        int[] cells = {0, 1, 2, 9, 11, 18, 19, 20};
        int[] directions = {3, 4, 5, 2, 6, 1, 0, 7};
        for (int i = 0; i < 8; i++) {
            Check.eachDue("from CELL " + cells[i] + " on", Check.row(8 - i, cells[i], directions[i]), x.where(1, 0, 0), x.where(1, 0, 1),
                    x.where(1, 0, 2));
            x.hang(cells[i], 1 + i % 2);
        }
        Check.eachDue("none is free but its own", Check.row(0, Check.NONE, Check.NONE), x.where(1, 0, 0), x.where(1, 0, 1), x.where(1, 0, 2));
        HallAnswers last = Check.hall("hall 9 9;fade 20;bounce 50;bench 7 8 0 80;pillar 6 8;pillar 6 7;pillar 7 7;pillar 8 7;");
        Check.eachDue("the last CELL alone", Check.row(1, 80, 6), last.where(1, 0, 0), last.where(1, 0, 1), last.where(1, 0, 2));
        HallAnswers first = Check.hall("hall 3 3;fade 20;bounce 50;bench 1 0 0 80;pillar 2 0;pillar 0 1;pillar 1 1;pillar 2 1;");
        Check.eachDue("the first CELL alone", Check.row(1, 0, 2), first.where(1, 0, 0), first.where(1, 0, 1), first.where(1, 0, 2));
    }

    private static void someDirection() {
        // turned round at once, more than one DIRECTION brings it there: the first is told
        HallAnswers x = Check.hall("hall 3 3;fade 1;bounce 1;bench 1 1 0 97;pillar 1 0;pillar 2 0;pillar 0 1;pillar 2 1;pillar 0 2;pillar 1 2;");
        Check.eachDue("from CELLS 0 and 20", Check.row(2, 0, 1), x.where(1, 0, 0), x.where(1, 0, 1), x.where(1, 0, 2));
        HallAnswers y = Check.hall("hall 3 3;fade 1;bounce 1;bench 0 1 0 98;pillar 1 0;pillar 2 0;pillar 2 1;pillar 0 2;pillar 2 2;pillar 1 1;");
        Check.eachDue("up from the upper wall comes down", Check.row(2, 0, 0), y.where(1, 0, 0), y.where(1, 0, 1), y.where(1, 0, 2));
        HallAnswers z = Check.hall("hall 3 3;fade 20;bounce 50;bench 1 1 0 80;pillar 0 0;pillar 1 0;pillar 2 0;pillar 0 1;pillar 2 1;"
                + "pillar 0 2;pillar 1 2;");
        Check.eachDue("the last DIRECTION", Check.row(1, 20, 7), z.where(1, 0, 0), z.where(1, 0, 1), z.where(1, 0, 2));
    }

    private static void justSome() {
        HallAnswers x = Check.hall("hall 3 3;fade 20;bounce 50;bench 0 0 0 60;bench 1 0 0 80;bench 2 2 0 80;");
        Check.eachDue("by 0 and 1: from CELL 2 to the left", Check.row(1, 2, 6), x.where(3, 0, 0), x.where(3, 0, 1), x.where(3, 0, 2));
        Check.eachDue("by all: from none", Check.row(0, Check.NONE, Check.NONE), x.where(7, 0, 0), x.where(7, 0, 1), x.where(7, 0, 2));
        Check.eachDue("by 2 alone", Check.row(3, 10, 3), x.where(4, 0, 0), x.where(4, 0, 1), x.where(4, 0, 2));
        String row = "";
        for (int i = 0; i < 8; i++) {
            row += "bench " + i + " 0 2 1;";
        }
        HallAnswers all = Check.hall("hall 9 3;fade 0;bounce 0;" + row);
        Check.due("by eight BENCHES: from the row", all.where(255, 0, 0), 9);
    }

    private static void byTheirEars() {
        Check.about("Promise 35", "by their CELLS, EARS;");
        String walls = "pillar 1 0;pillar 2 0;pillar 1 1;pillar 2 1;pillar 0 2;pillar 1 2;pillar 2 2;";
        for (int ear = 98; ear <= 100; ear++) {
            HallAnswers x = Check.hall("hall 3 3;fade 1;bounce 0;bench 0 1 0 " + ear + ";" + walls);
            Check.due("LOUD 99, EAR " + ear, x.where(1, 0, 1), ear <= 99 ? 0 : Check.NONE);
        }
        HallAnswers half = Check.hall("hall 3 3;fade 20;bounce 50;bench 0 1 0 100listening;" + walls);
        Check.due("LOUD 80, EAR 50", half.where(1, 0, 1), 0);
        HallAnswers kind = Check.hall("hall 9 3;fade 0;bounce 0;bench 0 0 2 100raised;bench 2 0 0 100raised;curtain 1 0;curtain 1 1;curtain 1 2;");
        Check.due("whispered by nobody raised: a CURTAIN swallows it", kind.where(3, 0, 0), 0);
        Check.due("FACING does not matter", kind.where(1, 0, 0) > 0 ? 1 : 0, 1);
    }

    private static void onThatCell() {
        Check.about("Promise 35", "a BENCH on that CELL, too, if it comes back): how many (what 0), the first one (1), its first DIRECTION (2).");
        String walls = "pillar 1 0;pillar 2 0;pillar 1 1;pillar 2 1;pillar 1 2;pillar 2 2;";
        // in a lane of three CELLS it comes back to the upper one in STEP 4, and in STEP 2 to the middle one
        int[] ears = {94, 95, 96, 97, 100};
        int[][] due = {{3, 0, 0}, {3, 0, 0}, {3, 0, 0}, {2, 9, 0}, {0, Check.NONE, Check.NONE}};
        for (int i = 0; i < ears.length; i++) {
            HallAnswers x = Check.hall("hall 3 3;fade 1;bounce 0;bench 0 0 0 " + ears[i] + ";" + walls);
            Check.eachDue("EAR " + ears[i], Check.row(due[i][0], due[i][1], due[i][2]), x.where(1, 0, 0), x.where(1, 0, 1), x.where(1, 0, 2));
        }
        HallAnswers closed = Check.hall("hall 3 3;fade 0;bounce 0;bench 0 0 0 1;pillar 1 0;pillar 0 1;pillar 1 1;");
        Check.due("it does not come back, nor anywhere", closed.where(1, 0, 0), 0);
    }

    private static void inThatHour() {
        HallAnswers x = Check.hall("hall 9 3;fade 20;bounce 50;bench 8 0 0 80moving;bench 8 2 0 100;pillar 8 1;");
        Check.eachDue("on CELL 8 by HOUR 0", Check.row(2, 7, 2), x.where(1, 0, 0), x.where(1, 0, 1), x.where(1, 0, 2));
        Check.eachDue("on CELL 0 by HOUR 1", Check.row(3, 1, 6), x.where(1, 1, 0), x.where(1, 1, 1), x.where(1, 1, 2));
        Check.eachDue("on CELL 1 by HOUR 11", Check.row(5, 0, 2), x.where(1, 11, 0), x.where(1, 11, 1), x.where(1, 11, 2));
    }

    private static void whereRefuses() {
        Check.about("Promise 35", "BAD; NONE (1, 2): none.");
        int[][] bad = {{0, 0, 0}, {-1, 0, 0}, {256, 0, 0}, {1, -1, 0}, {1, 12, 0}, {1, 0, -1}, {1, 0, 3}, {0, 12, 3},
            {Integer.MIN_VALUE, 0, 0}, {Integer.MAX_VALUE, 0, 0}, {1, 0, Integer.MIN_VALUE}, {1, 0, Integer.MAX_VALUE}};
        for (int[] a : bad) {
            Twins.refused("where" + Arrays.toString(a), Check.BAD, Halls::rich, x -> x.where(a[0], a[1], a[2]));
        }
        for (int n = 0; n <= 8; n++) {
            HallAnswers x = Check.hall("hall 9 3;" + "bench 0 2 4 100;".repeat(n));
            Check.eachDue("of " + n + " BENCHES", Check.row(Check.BAD, Check.BAD, n == 0 ? Check.BAD : 0, n == 0 ? Check.BAD : Check.NONE),
                    x.where(0, 0, 0), x.where(1 << n, 0, 0), x.where((1 << n) - 1, 0, 0), x.where((1 << n) - 1, 0, 1));
        }
        Twins.refused("from none", Check.NONE, () -> Check.hall("bench 0 2 4 100;"), x -> x.where(1, 0, 1));
        Twins.refused("from none", Check.NONE, () -> Check.hall("bench 0 2 4 100;"), x -> x.where(1, 0, 2));
        Check.due("of no CELLS: 0", Check.hall("bench 0 2 4 100;").where(1, 0, 0), 0);
    }
}
