/** The edges of a WHISPER's way and of who HEARS it (Terms, promises 13 to 17). */
public final class WayEdgeTests {
    public static void main(String[] args) {
        fortySteps();
        wallsTurnIt();
        cornersTurnItTwice();
        directionStays();
        warmSteps();
        warmAtTheLowestRow();
        warmIsWhereItComesTo();
        loudOfSteps();
        loudOfBounces();
        endsAtLoudNought();
        endsAtDeafCells();
        hearsByItsEar();
        hearsTheFirstTime();
        notItself();
        way();
        steps();
        hears();
        heard();
        answer();
        Check.finish("WayEdgeTests");
    }

    private static void fortySteps() {
        Check.about("Terms", "STEP by STEP (40 at most)");
        HallAnswers x = Check.hall("hall 9 3;fade 0;bounce 0;bench 0 0 2 100;bench 8 0 6 100;");
        Check.eachDue("nothing ends it before", Check.row(40, 8, 1, 7, Check.BAD), x.steps(0, 0), x.way(0, 0, 40),
                x.way(0, 0, 15), x.way(0, 0, 39), x.way(0, 0, 41));
        Check.eachDue("as LOUD as ever", Check.row(100, 8, 0), x.hears(0, 1, 0, 0), x.hears(0, 1, 0, 1), x.hears(0, 1, 0, 2));
        Check.due("LOUD 20 in STEP 40", Check.hall("hall 9 3;fade 2;bounce 0;bench 0 0 2 1;").steps(0, 0), 40);
        Check.due("LOUD 0 in STEP 34", Check.hall("hall 9 3;fade 3;bounce 0;bench 0 0 2 1;").steps(0, 0), 33);
        // it comes to every CELL of the rows it crosses, to the last one by STEP 40
        HallAnswers y = Check.hall("hall 4 8;fade 0;bounce 0;bench 1 2 5 1;bench 3 0 0 1;bench 3 0 0 100;");
        Check.eachDue("HEARD by STEP 40", Check.row(40, 40, 3), y.hears(0, 1, 0, 1), y.hears(0, 2, 0, 1), y.way(0, 0, 40));
        HallAnswers z = Check.hall("hall 4 8;fade 0;bounce 0;bench 2 1 1 1;bench 3 0 0 1;pillar 0 7;");
        Check.due("an end before it", z.hears(0, 1, 0, 1), 1);
    }

    private static void wallsTurnIt() {
        Check.about("Terms", "x, y change by it; what would be outside the hall is turned round first (x, y each by itself: a BOUNCE each");
        // from the middle of each wall of a hall of 5 and 5, by each DIRECTION: the first CELL
        int[] left = {9, 10, 19, 28, 27, 28, 19, 10};
        int[] right = {13, 12, 21, 30, 31, 30, 21, 12};
        int[] top = {11, 12, 3, 12, 11, 10, 1, 10};
        int[] bottom = {29, 30, 39, 30, 29, 28, 37, 28};
        String[] walls = {"0 2", "4 2", "2 0", "2 4"};
        int[][] first = {left, right, top, bottom};
        int[][] turned = {{5, 6, 7}, {1, 2, 3}, {7, 0, 1}, {3, 4, 5}};
        for (int wall = 0; wall < 4; wall++) {
            for (int d = 0; d < 8; d++) {
                HallAnswers x = Check.hall("hall 5 5;fade 0;bounce 1;bench " + walls[wall] + " " + d + " 1;bench "
                        + first[wall][d] % 9 + " " + first[wall][d] / 9 + " 0 1;");
                boolean bounces = d == turned[wall][0] || d == turned[wall][1] || d == turned[wall][2];
                Check.due("wall " + wall + ", DIRECTION " + d, x.way(0, 0, 1), first[wall][d]);
                Check.due("BOUNCES at wall " + wall + ", DIRECTION " + d, x.hears(0, 1, 0, 2), bounces ? 1 : 0);
                Check.due("LOUD at wall " + wall + ", DIRECTION " + d, x.hears(0, 1, 0, 0), bounces ? 99 : 100);
            }
        }
    }

    private static void cornersTurnItTwice() {
        // from each corner of a hall of 5 and 4, by each DIRECTION: the first CELL, how many BOUNCES
        String[] corners = {"0 0", "4 0", "0 3", "4 3"};
        int[][] first = {{9, 10, 1, 10, 9, 10, 1, 10}, {13, 12, 3, 12, 13, 12, 3, 12},
            {18, 19, 28, 19, 18, 19, 28, 19}, {22, 21, 30, 21, 22, 21, 30, 21}};
        int[][] bounces = {{1, 1, 0, 0, 0, 1, 1, 2}, {1, 2, 1, 1, 0, 0, 0, 1}, {0, 0, 0, 1, 1, 2, 1, 1}, {0, 1, 1, 2, 1, 1, 0, 0}};
        for (int corner = 0; corner < 4; corner++) {
            for (int d = 0; d < 8; d++) {
                HallAnswers x = Check.hall("hall 5 4;fade 1;bounce 10;bench " + corners[corner] + " " + d + " 1;bench "
                        + first[corner][d] % 9 + " " + first[corner][d] / 9 + " 0 1;");
                Check.eachDue("corner " + corner + ", DIRECTION " + d,
                        Check.row(first[corner][d], 1, bounces[corner][d], 99 - 10 * bounces[corner][d]),
                        x.way(0, 0, 1), x.hears(0, 1, 0, 1), x.hears(0, 1, 0, 2), x.hears(0, 1, 0, 0));
            }
        }
    }

    private static void directionStays() {
        Check.about("Terms", "its DIRECTION stays so from then on");
        due(Check.hall("hall 4 3;fade 0;bounce 0;bench 1 1 2 1;"), 10, 11, 12, 11, 10, 9, 10, 11, 12, 11);
        due(Check.hall("hall 4 3;fade 0;bounce 0;bench 1 1 0 1;"), 10, 1, 10, 19, 10, 1, 10);
        due(Check.hall("hall 3 5;fade 0;bounce 0;bench 0 0 3 1;"), 0, 10, 20, 28, 36, 28, 20, 10, 0, 10);
        due(Check.hall("hall 4 3;fade 0;bounce 0;bench 0 0 7 1;"), 0, 10, 20, 12, 2, 10, 18, 10, 2, 12);
        due(Check.hall("hall 9 3;fade 0;bounce 0;bench 8 1 2 1;"), 17, 16, 15, 14, 13, 12, 11, 10, 9, 10);
        due(Check.hall("hall 3 9;fade 0;bounce 0;bench 2 8 4 1;"), 74, 65, 56, 47, 38, 29, 20, 11, 2, 11);
    }

    private static void due(HallAnswers x, int... cells) {
        for (int i = 0; i < cells.length; i++) {
            Check.due("the CELL of STEP " + i, x.way(0, 0, i), cells[i]);
        }
    }

    private static void warmSteps() {
        Check.about("Terms", "Then, behind each warm-th STEP (warm 1 and more), y is one more, if that is in the hall");
        for (int warm = 0; warm <= 9; warm++) {
            HallAnswers x = Check.hall("hall 3 9;fade 0;bounce 0;bench 0 0 2 1;warm " + warm + ";");
            for (int i = 0; i <= 40; i++) {
                int y = warm == 0 ? 0 : Math.min(8, i / warm);
                int column = new int[]{0, 1, 2, 1}[i % 4];
                Check.due("warm " + warm + ", STEP " + i, x.way(0, 0, i), 9 * y + column);
            }
        }
        HallAnswers x = Check.hall("hall 3 9;fade 0;bounce 0;bench 0 0 2 1;");
        x.warm(9);
        Check.eachDue("as by warm()", Check.row(0, 10, 18, 27), x.way(0, 0, 8), x.way(0, 0, 9), x.way(0, 0, 20), x.way(0, 0, 28));
    }

    private static void warmAtTheLowestRow() {
        HallAnswers x = Check.hall("hall 5 3;fade 1;bounce 10;warm 1;bench 0 2 2 1;bench 3 2 0 1;");
        Check.eachDue("it stays there, without a BOUNCE", Check.row(19, 21, 3, 97, 0), x.way(0, 0, 1), x.way(0, 0, 3),
                x.hears(0, 1, 0, 1), x.hears(0, 1, 0, 0), x.hears(0, 1, 0, 2));
        HallAnswers y = Check.hall("hall 3 4;fade 0;bounce 1;warm 2;bench 1 2 0 1;");
        due(y, 19, 10, 10, 1, 19, 28, 28, 19, 19, 10, 10);
        HallAnswers z = Check.hall("hall 3 4;fade 0;bounce 1;warm 1;bench 1 1 4 1;");
        // two rows a STEP while it goes down; at the wall it is turned, and goes up and down again by turns
        due(z, 10, 28, 28, 28);
        HallAnswers up = Check.hall("hall 3 4;fade 0;bounce 1;warm 1;bench 1 0 0 1;bench 1 2 0 1;");
        Check.eachDue("turned by the upper wall first", Check.row(19, 1, 1), up.way(0, 0, 1), up.hears(0, 1, 0, 1), up.hears(0, 1, 0, 2));
    }

    private static void warmIsWhereItComesTo() {
        Check.about("Terms", "that is the CELL to which it comes in this STEP");
        HallAnswers x = Check.hall("hall 5 3;fade 1;warm 2;bench 0 0 2 1;bench 2 0 0 1;bench 2 1 0 1;");
        Check.eachDue("it does not come to the CELL above", Check.row(1, 11, Check.NONE, 2), x.way(0, 0, 1), x.way(0, 0, 2),
                x.hears(0, 1, 0, 1), x.hears(0, 2, 0, 1));
        HallAnswers y = Check.hall("hall 5 3;fade 0;bounce 0;warm 2;bench 0 0 2 1;pillar 2 0;curtain 4 1;");
        Check.eachDue("what is DEAF above does not end it", Check.row(11, 22, 40), y.way(0, 0, 2), y.way(0, 0, 4), y.steps(0, 0));
        y.hang(22, 2);
        Check.eachDue("what is DEAF there does", Check.row(3, 12, Check.NONE), y.steps(0, 0), y.way(0, 0, 3), y.way(0, 0, 4));
    }

    private static void loudOfSteps() {
        Check.about("Terms", "LOUD: 100, less fade for each STEP, less bounce for each BOUNCE.");
        for (int fade : new int[]{0, 1, 12, 20}) {
            HallAnswers x = Check.hall("hall 9 3;bounce 0;fade " + fade + ";bench 0 0 2 1;bench 1 0 2 1;bench 4 0 2 1;");
            Check.eachDue("fade " + fade, Check.row(100 - fade, 1, 0, 100 - 4 * fade, 4), x.hears(0, 1, 0, 0), x.hears(0, 1, 0, 1),
                    x.hears(0, 1, 0, 2), x.hears(0, 2, 0, 0), x.hears(0, 2, 0, 1));
        }
    }

    private static void loudOfBounces() {
        for (int bounce : new int[]{0, 1, 49, 50}) {
            HallAnswers x = Check.hall("hall 9 3;fade 1;bounce " + bounce + ";bench 1 0 6 1;bench 2 0 0 1;");
            Check.eachDue("bounce " + bounce, Check.row(97 - bounce, 3, 1), x.hears(0, 1, 0, 0), x.hears(0, 1, 0, 1), x.hears(0, 1, 0, 2));
        }
        HallAnswers twice = Check.hall("hall 3 3;fade 0;bounce 33;bench 0 0 2 1;bench 1 1 7 1;bench 2 2 0 1;");
        Check.eachDue("two in one STEP", Check.row(34, 3, 2), twice.hears(1, 2, 0, 0), twice.hears(1, 2, 0, 1), twice.hears(1, 2, 0, 2));
    }

    private static void endsAtLoudNought() {
        Check.about("Terms", "It ENDS where it would come to a DEAF CELL, or LOUD would be 0 or less: it does not come there.");
        int[][] fades = {{20, 4}, {19, 5}, {11, 9}, {10, 9}, {9, 11}, {5, 19}, {4, 24}, {3, 33}, {2, 40}, {1, 40}, {0, 40}};
        for (int[] f : fades) {
            HallAnswers x = Check.hall("hall 3 3;bounce 0;fade " + f[0] + ";bench 0 0 2 1;");
            Check.due("fade " + f[0], x.steps(0, 0), f[1]);
            Check.due("it does not come there", x.way(0, 0, Math.min(40, f[1] + 1)), f[1] == 40 ? 0 : Check.NONE);
        }
        // it bounces in STEPS 3, 5, 7 and so on: by the last LOUD that is more than 0
        int[][] bounces = {{50, 4}, {49, 6}, {34, 6}, {33, 8}, {25, 8}, {20, 10}, {10, 20}, {6, 34}, {5, 40}, {0, 40}};
        for (int[] b : bounces) {
            HallAnswers x = Check.hall("hall 3 3;fade 0;bounce " + b[0] + ";bench 0 0 2 1;");
            Check.due("bounce " + b[0], x.steps(0, 0), b[1]);
        }
        Check.due("twice 50 in a corner", Check.hall("hall 3 3;fade 0;bounce 50;bench 0 0 7 1;").steps(0, 0), 0);
        Check.due("twice 49 in a corner", Check.hall("hall 3 3;fade 0;bounce 49;bench 0 0 7 1;").steps(0, 0), 2);
        Check.due("LOUD 1", Check.hall("hall 3 3;fade 2;bounce 49;bench 0 0 7 1;").steps(0, 0), 0);
        HallAnswers one = Check.hall("hall 3 3;fade 1;bounce 49;bench 0 0 7 1;bench 1 1 0 1;");
        Check.eachDue("LOUD 1 is HEARD by EAR 1", Check.row(1, 1), one.steps(0, 0), one.hears(0, 1, 0, 0));
    }

    private static void endsAtDeafCells() {
        for (int what = 1; what <= 2; what++) {
            HallAnswers x = Check.hall("hall 5 3;fade 0;bounce 0;bench 1 1 2 1;");
            Check.due("nothing in the way", x.steps(0, 0), 40);
            x.hang(11, what);
            Check.eachDue("the next CELL is DEAF", Check.row(0, 10, Check.NONE, Check.NONE), x.steps(0, 0), x.way(0, 0, 0),
                    x.way(0, 0, 1), x.way(0, 0, 40));
            x.hang(11, 0);
            x.hang(9, what);
            Check.eachDue("the last one before it comes back", Check.row(6, 10, Check.NONE), x.steps(0, 0), x.way(0, 0, 6), x.way(0, 0, 7));
            x.hang(9, 0);
            x.hang(1, what);
            x.hang(19, what);
            Check.due("beside its way", x.steps(0, 0), 40);
            HallAnswers diagonal = Check.hall("hall 3 3;fade 0;bounce 0;bench 0 0 3 1;");
            diagonal.hang(1, what);
            diagonal.hang(9, what);
            Check.due("between two DEAF CELLS", diagonal.steps(0, 0), 40);
        }
        HallAnswers deaf = Check.hall("hall 9 3;fade 0;bounce 0;bench 0 0 1 1 moving;pillar 1 0;");
        Check.eachDue("where it begins does not end it, but when it comes back", Check.row(1, 2, 2, Check.NONE, 13), deaf.way(0, 1, 0),
                deaf.way(0, 1, 1), deaf.way(0, 1, 13), deaf.way(0, 1, 14), deaf.steps(0, 1));
        HallAnswers raised = Check.hall("hall 9 3;fade 0;bounce 0;bench 0 0 2 1 raised;curtain 1 0;pillar 3 0;curtain 2 0;");
        Check.eachDue("a CURTAIN does not end that of a raised one, a PILLAR does", Check.row(1, 2, Check.NONE, 2), raised.way(0, 0, 1),
                raised.way(0, 0, 2), raised.way(0, 0, 3), raised.steps(0, 0));
    }

    private static void hearsByItsEar() {
        Check.about("Terms", "comes to its CELL (the first time it does so, by STEP 1 or a later one) as LOUD as its EAR or more");
        int[] ears = {1, 87, 88, 89, 100};
        for (int ear : ears) {
            HallAnswers x = Check.hall("hall 9 3;bench 0 0 2 1;bench 4 0 0 " + ear + ";");
            Check.eachDue("LOUD 88, EAR " + ear, ear <= 88 ? Check.row(88, 4, 2) : Check.row(Check.NONE, Check.NONE, 0),
                    x.hears(0, 1, 0, 0), x.hears(0, 1, 0, 1), x.heard(0, 0));
        }
        HallAnswers all = Check.hall("hall 9 3;fade 0;bounce 0;bench 0 0 2 1;bench 4 0 0 100;");
        Check.due("LOUD 100, EAR 100", all.hears(0, 1, 0, 0), 100);
        HallAnswers last = Check.hall("hall 9 3;fade 11;bounce 0;bench 0 0 2 1;bench 7 0 0 1;bench 7 0 0 23;bench 7 0 0 24;");
        Check.eachDue("LOUD 23", Check.row(23, 23, Check.NONE), last.hears(0, 1, 0, 0), last.hears(0, 2, 0, 0), last.hears(0, 3, 0, 0));
    }

    private static void hearsTheFirstTime() {
        Check.about("Terms", "LATE: how many STEPS.");
        HallAnswers x = Check.hall("hall 4 3;fade 1;bounce 0;bench 0 0 2 1;bench 2 0 0 1;bench 0 0 0 1;bench 0 0 0 95;");
        Check.eachDue("it comes there in STEPS 2, 4, 8", Check.row(2, 98), x.hears(0, 1, 0, 1), x.hears(0, 1, 0, 0));
        Check.eachDue("on the CELL where it begins: not by STEP 0", Check.row(6, 94, 1, Check.NONE), x.hears(0, 2, 0, 1),
                x.hears(0, 2, 0, 0), x.hears(0, 2, 0, 2), x.hears(0, 3, 0, 0));
        HallAnswers one = Check.hall("hall 4 3;fade 1;bounce 0;bench 0 0 2 1;bench 1 0 0 99;");
        Check.eachDue("by STEP 1", Check.row(1, 99), one.hears(0, 1, 0, 1), one.hears(0, 1, 0, 0));
    }

    private static void notItself() {
        Check.about("Terms", "Not itself.");
        HallAnswers x = Check.hall("hall 3 3;fade 0;bounce 0;bench 0 0 2 1;bench 0 0 2 1;");
        Check.eachDue("it comes back to it", Check.row(0, 2, 1, Check.BAD, Check.BAD), x.way(0, 0, 4), x.heard(0, 0), x.heard(1, 0),
                x.hears(0, 0, 0, 0), x.hears(1, 1, 0, 1));
        HallAnswers alone = Check.hall("hall 3 3;fade 0;bounce 0;bench 0 0 2 1;");
        Check.eachDue("alone", Check.row(0, Check.NONE, 1, 0), alone.heard(0, 0), alone.answer(0, 0), alone.from(0, 0), alone.days(0, 0, 0));
    }

    private static void way() {
        Check.about("Promise 13", "The CELL to which a WHISPER from a BENCH in an HOUR comes in STEP i (0 to 40; 0: where it begins). "
                + "BAD; NONE: it has ENDED.");
        HallAnswers x = Check.hall("hall 9 3;fade 20;bench 0 0 2 1;bench 1 1 1 1 moving;");
        Check.eachDue("till it ends, and behind that", Check.row(0, 1, 4, Check.NONE, Check.NONE), x.way(0, 0, 0), x.way(0, 0, 1),
                x.way(0, 0, 4), x.way(0, 0, 5), x.way(0, 0, 40));
        Check.eachDue("in the last HOUR", Check.row(12, 21, Check.NONE), x.way(1, 11, 0), x.way(1, 11, 1), x.way(1, 11, 5));
        int[][] bad = {{-1, 0, 0}, {8, 0, 0}, {0, -1, 0}, {0, 12, 0}, {0, 0, -1}, {0, 0, 41}, {0, 0, Integer.MIN_VALUE},
            {0, 0, Integer.MAX_VALUE}, {Integer.MAX_VALUE, 0, 0}, {Integer.MIN_VALUE, 0, 0}, {8, 12, 41}};
        for (int[] a : bad) {
            Twins.refused("way" + java.util.Arrays.toString(a), Check.BAD, Halls::rich, y -> y.way(a[0], a[1], a[2]));
        }
        Twins.refused("it has ENDED", Check.NONE, () -> Check.hall("bench 0 0 2 1;pillar 1 0;"), y -> y.way(0, 0, 1));
    }

    private static void steps() {
        Check.about("Promise 14", "How many STEPS it comes. BAD.");
        HallAnswers x = Check.hall("hall 9 3;fade 0;bounce 0;bench 0 0 2 1;bench 0 2 2 1;pillar 1 2;");
        Check.eachDue("forty, none", Check.row(40, 0), x.steps(0, 0), x.steps(1, 11));
        int[][] bad = {{-1, 0}, {8, 0}, {0, -1}, {0, 12}, {Integer.MIN_VALUE, 0}, {Integer.MAX_VALUE, 0}};
        for (int[] a : bad) {
            Twins.refused("steps" + java.util.Arrays.toString(a), Check.BAD, Halls::rich, y -> y.steps(a[0], a[1]));
        }
    }

    private static void hears() {
        Check.about("Promise 15", "How BENCH c HEARS BENCH b: LOUD (what 0), LATE (1), BOUNCES till then (2). BAD: also alike; "
                + "NONE: it does not.");
        HallAnswers x = Check.hall("hall 9 3;bench 0 0 2 1;" + "bench 1 2 0 1;".repeat(6) + "bench 7 0 2 1;");
        Check.eachDue("the last BENCH", Check.row(79, 7, 0, Check.NONE, Check.NONE, Check.NONE), x.hears(0, 7, 0, 0), x.hears(0, 7, 11, 1),
                x.hears(0, 7, 0, 2), x.hears(0, 6, 0, 0), x.hears(0, 6, 0, 1), x.hears(0, 6, 0, 2));
        Check.eachDue("BOUNCES till then, not behind", Check.row(1, 9, 68), x.hears(7, 0, 0, 2), x.hears(7, 0, 0, 1), x.hears(7, 0, 0, 0));
        int[][] bad = {{-1, 0, 0, 0}, {8, 0, 0, 0}, {0, -1, 0, 0}, {0, 8, 0, 0}, {0, 1, -1, 0}, {0, 1, 12, 0}, {0, 1, 0, -1},
            {0, 1, 0, 3}, {0, 0, 0, 0}, {7, 7, 11, 2}, {-1, -1, 0, 0}, {8, 8, 0, 0}, {0, 0, 12, 3}};
        for (int[] a : bad) {
            Twins.refused("hears" + java.util.Arrays.toString(a), Check.BAD, Halls::rich, y -> y.hears(a[0], a[1], a[2], a[3]));
        }
    }

    private static void heard() {
        Check.about("Promise 16", "BENCHES that HEAR a BENCH (bits). BAD.");
        String row = "";
        for (int i = 0; i < 8; i++) {
            row += "bench " + i + " 0 2 1;";
        }
        HallAnswers x = Check.hall("hall 9 3;fade 0;bounce 0;" + row);
        for (int b = 0; b < 8; b++) {
            Check.due("all but itself: BENCH " + b, x.heard(b, 11), 255 - (1 << b));
        }
        Check.due("none", Check.hall("hall 9 3;bench 0 0 0 1;".concat("bench 1 0 0 1;".repeat(7))).heard(0, 0), 0);
        int[][] bad = {{-1, 0}, {8, 0}, {0, -1}, {0, 12}, {Integer.MIN_VALUE, 0}, {Integer.MAX_VALUE, 0}};
        for (int[] a : bad) {
            Twins.refused("heard" + java.util.Arrays.toString(a), Check.BAD, Halls::rich, y -> y.heard(a[0], a[1]));
        }
    }

    private static void answer() {
        Check.about("Promise 17", "The BENCH that alone HEARS a BENCH, if that one alone HEARS it, too. BAD; NONE: there is none.");
        String others = "bench 4 2 0 100;".repeat(5);
        HallAnswers x = Check.hall("hall 9 3;bench 0 0 2 50;" + others + "bench 6 1 2 99;bench 4 0 6 50;");
        Check.eachDue("the first and the last", Check.row(7, 0, Check.NONE, Check.NONE), x.answer(0, 0), x.answer(7, 11), x.answer(1, 0),
                x.answer(6, 0));
        HallAnswers third = Check.hall("hall 9 3;bench 0 0 2 50;bench 4 0 6 50;bench 6 0 6 90;");
        Check.eachDue("a third one HEARD by both does not matter", Check.row(1, 0, Check.NONE), third.answer(0, 0), third.answer(1, 0),
                third.answer(2, 0));
        HallAnswers hears = Check.hall("hall 9 3;bench 0 0 2 50;bench 4 0 6 50;bench 2 0 0 94;");
        Check.eachDue("a third one that HEARS the one", Check.row(Check.NONE, Check.NONE), hears.answer(0, 0), hears.answer(1, 0));
        HallAnswers other = Check.hall("hall 9 3;bench 0 0 2 50;bench 4 0 6 50;bench 2 0 0 94;pillar 3 2;curtain 3 1;");
        other.hang(3, 2);
        Check.eachDue("it is HEARD no more", Check.row(Check.NONE, Check.NONE), other.answer(0, 0), other.answer(1, 0));
        int[][] bad = {{-1, 0}, {8, 0}, {0, -1}, {0, 12}, {Integer.MIN_VALUE, 0}, {Integer.MAX_VALUE, 0}};
        for (int[] a : bad) {
            Twins.refused("answer" + java.util.Arrays.toString(a), Check.BAD, Halls::rich, y -> y.answer(a[0], a[1]));
        }
        Twins.refused("none", Check.NONE, () -> Check.hall("bench 0 0 0 1;bench 1 0 0 1;"), y -> y.answer(0, 0));
    }
}
