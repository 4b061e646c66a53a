import java.util.Arrays;

/** The edges of BROKEN, SEATINGS (Terms) and of promises 18 to 25. */
public final class SeatEdgeTests {
    /** BENCHES 0 and 1 HEAR one another by LOUD 88, BENCH 2 HEARS nobody. */
    private static final String THREE = "hall 9 3;bench 0 0 2 88;bench 4 0 6 88;bench 8 2 0 1;";
    private static final String ASIDE = "bench 0 2 4 100;";

    public static void main(String[] args) {
        byTheirBenches();
        can();
        broken();
        allBroken();
        seatingsOfFew();
        seatingsOfMany();
        seatingsInOrder();
        seatingRefuses();
        curtainCells();
        curtainFewest();
        curtainRefuses();
        clearCells();
        clearFewest();
        hours();
        days();
        best();
        Check.finish("SeatEdgeTests");
    }

    private static void byTheirBenches() {
        Check.about("Terms", "A ONE HEARS another one by their BENCHES.");
        // BENCH 0 is HEARD by BENCH 1 alone, BENCHES 1 and 3 by one another, BENCH 2 by nobody
        HallAnswers x = Check.hall("hall 9 3;fade 20;bounce 50;bench 0 0 2 80;bench 1 0 4 80;bench 8 2 6 80;bench 1 1 0 100listening;people 3;"
                + "join 0 1;join 1 2;bar 2 1;");
        long[][] due = {{1, 0, 0, 0, 2}, {0, 0, 0, 0, 7}, {0, 1, 0, 0, 5}, {1, 1, 0, 0, 4}};
        int[][] sits = {{0, 0}, {0, 2}, {2, 3}, {0, 0}};
        for (int i = 0; i < due.length; i++) {
            x.sit(sits[i][0], sits[i][1]);
            Check.eachDue("as they sit, " + i, due[i], x.can(0, 1, 0), x.can(1, 2, 0), x.can(0, 2, 0), x.can(2, 0, 0), x.broken(0));
            Check.eachDue("the BENCHES do as before, " + i, Check.row(2, 8, 0, 2), x.heard(0, 0), x.heard(1, 0), x.heard(2, 0), x.heard(3, 0));
        }
    }

    private static void can() {
        Check.about("Promise 18", "Whether a ONE HEARS another one (p whispers, q HEARS: 1, 0). BAD: also himself.");
        HallAnswers x = Check.hall("hall 9 3;bench 0 0 2 88;" + ASIDE.repeat(4) + "bench 4 0 0 88;bench 4 0 0 89;");
        Check.eachDue("the first, the last", Check.row(1, 0, 0), x.can(0, 5, 0), x.can(5, 0, 0), x.can(0, 4, 11));
        x.sit(5, 6);
        Check.due("by the BENCH where he sits", x.can(0, 5, 0), 0);
        for (int p = 0; p < 6; p++) {
            int one = p;
            Twins.refused("himself, " + p, Check.BAD, Halls::rich, y -> y.can(one, one, 0));
        }
        int[][] bad = {{-1, 0, 0}, {6, 0, 0}, {0, -1, 0}, {0, 6, 0}, {0, 1, -1}, {0, 1, 12}, {-1, -1, 0}, {6, 6, 0},
            {Integer.MIN_VALUE, 0, 0}, {0, Integer.MAX_VALUE, 0}};
        for (int[] a : bad) {
            Twins.refused("can" + Arrays.toString(a), Check.BAD, Halls::rich, y -> y.can(a[0], a[1], a[2]));
        }
        HallAnswers two = Check.hall(THREE + "people 2;");
        Check.eachDue("as many as there are", Check.row(1, Check.BAD, Check.BAD), two.can(0, 1, 0), two.can(0, 2, 0), two.can(2, 0, 0));
    }

    private static void broken() {
        Check.about("Terms", "BROKEN: WANTS that are not so.");
        String[] wants = {"join 0 1;", "bar 0 1;", "join 0 2;", "bar 0 2;"};
        int[] broken = {0, 1, 1, 0};
        for (int i = 0; i < 4; i++) {
            Check.due(wants[i], Check.hall(THREE + wants[i]).broken(0), broken[i]);
            Check.due(wants[i] + " behind seven others", Check.hall(THREE + "join 0 1;".repeat(7) + wants[i]).broken(0), 128 * broken[i]);
        }
        HallAnswers ear = Check.hall("hall 9 3;bench 0 0 2 88;bench 4 0 6 89;bench 8 2 0 1;join 0 1;join 1 0;");
        Check.due("too low for one of them", ear.broken(0), 1);
    }

    private static void allBroken() {
        Check.about("Promise 19", "BROKEN WANTS in an HOUR (bits). BAD.");
        Check.due("all", Check.hall(THREE + "bar 0 1;".repeat(8)).broken(11), 255);
        Check.due("none of eight", Check.hall(THREE + "join 0 1;".repeat(8)).broken(0), 0);
        Check.due("no WANTS", Check.hall(THREE).broken(0), 0);
        Check.due("some", Check.hall(THREE + "bar 0 1;join 0 1;".repeat(4)).broken(0), 0x55);
        for (int hour : new int[]{-1, 12, Integer.MIN_VALUE, Integer.MAX_VALUE}) {
            Twins.refused("broken(" + hour + ")", Check.BAD, Halls::rich, x -> x.broken(hour));
        }
    }

    private static void seatingsOfFew() {
        Check.about("Promise 20", "SEATINGS with the fewest BROKEN WANTS: how few (what 0), how many such SEATINGS (1)");
        int[] many = {1, 1, 2, 6, 24, 120, 720, 5040, 20160};
        for (int benches = 0; benches <= 8; benches++) {
            HallAnswers x = Check.hall(ASIDE.repeat(benches));
            Check.eachDue("of " + benches + " BENCHES", Check.row(0, many[benches]), x.seating(0, 0), x.seating(11, 1));
        }
        int[] ofEight = {1, 8, 56, 336, 1680, 6720, 20160};
        for (int people = 0; people <= 6; people++) {
            HallAnswers x = Check.hall("people " + people + ";" + ASIDE.repeat(8));
            Check.due("of " + people + " PEOPLE", x.seating(0, 1), ofEight[people]);
        }
        HallAnswers all = Check.hall("people 2;" + ASIDE.repeat(8) + "join 0 1;".repeat(4) + "join 1 0;".repeat(4));
        Check.eachDue("all are BROKEN in each of them", Check.row(8, 56, 0, 1), all.seating(0, 0), all.seating(0, 1), all.seating(0, 10),
                all.seating(0, 11));
    }

    private static void seatingsOfMany() {
        String others = ASIDE.repeat(5);
        HallAnswers x = Check.hall("hall 9 3;" + ASIDE + "bench 4 0 6 88;" + others + "bench 0 0 2 88;join 0 5;join 5 0;");
        Check.eachDue("fewest, how many", Check.row(0, 2 * 6 * 5 * 4 * 3), x.seating(0, 0), x.seating(0, 1));
        int[] seats = {1, 0, 2, 3, 4, 7};
        for (int p = 0; p < 6; p++) {
            Check.due("the first one, ONE " + p, x.seating(0, 10 + p), seats[p]);
            Check.due("they do not sit down there", x.bench(p, 0, 4), p);
        }
        HallAnswers last = Check.hall("hall 9 3;" + others + ASIDE + "bench 4 0 6 88;bench 0 0 2 88;join 0 5;join 5 0;bar 1 0;");
        Check.eachDue("the last BENCHES", Check.row(0, 6, 0, 1, 2, 3, 7), last.seating(0, 0), last.seating(0, 10), last.seating(0, 11),
                last.seating(0, 12), last.seating(0, 13), last.seating(0, 14), last.seating(0, 15));
    }

    private static void seatingsInOrder() {
        Check.about("Terms", "SEATINGS: each ONE on a BENCH, all unlike; by the BENCH of ONE 0, then ONE 1 and so on.");
        HallAnswers x = Check.hall(THREE + "bar 0 1;bar 1 0;");
        Check.eachDue("ONE 0 on BENCH 0 first, though he may sit elsewhere", Check.row(4, 0, 2, 1), x.seating(0, 1), x.seating(0, 10),
                x.seating(0, 11), x.seating(0, 12));
        HallAnswers y = Check.hall(THREE + "join 1 2;join 2 1;");
        Check.eachDue("then ONE 1", Check.row(2, 2, 0, 1), y.seating(0, 1), y.seating(0, 10), y.seating(0, 11), y.seating(0, 12));
        y.sit(1, 1);
        y.sit(2, 0);
        Check.eachDue("however they sit", Check.row(2, 2, 0, 1), y.seating(0, 1), y.seating(0, 10), y.seating(0, 11), y.seating(0, 12));
    }

    private static void seatingRefuses() {
        Check.about("Promise 20", "10 and p: the BENCH of ONE p in the first one. BAD.");
        int[][] bad = {{-1, 0}, {12, 0}, {0, -1}, {0, 2}, {0, 3}, {0, 9}, {0, 16}, {0, 17}, {12, 10}, {Integer.MIN_VALUE, 1},
            {0, Integer.MIN_VALUE}, {0, Integer.MAX_VALUE}};
        for (int[] a : bad) {
            Twins.refused("seating" + Arrays.toString(a), Check.BAD, Halls::rich, x -> x.seating(a[0], a[1]));
        }
        for (int people = 0; people <= 6; people++) {
            HallAnswers x = Check.hall("people " + people + ";" + ASIDE.repeat(6));
            for (int p = 0; p <= 6; p++) {
                Check.due("ONE " + p + " of " + people, x.seating(0, 10 + p), p < people ? p : Check.BAD);
            }
        }
    }

    private static void curtainCells() {
        Check.about("Promise 21", "The free CELL without a BENCH in that HOUR where one CURTAIN more leaves the fewest BROKEN "
                + "(PEOPLE as they sit), fewer than now, of several the least (what 0), how few (1).");
        HallAnswers least = Check.hall("hall 9 3;bench 0 0 2 88;bench 4 0 6 88;bar 0 1;");
        Check.eachDue("of several the least", Check.row(1, 0), least.curtain(0, 0), least.curtain(0, 1));
        for (int c = 1; c <= 3; c++) {
            HallAnswers x = Check.hall("hall 9 3;bench 0 0 2 1;bench 4 0 2 1;" + beside(1, c) + beside(2, c) + beside(3, c) + "bar 0 1;");
            Check.eachDue("free of BENCHES is CELL " + c + " alone", Check.row(c, 0), x.curtain(0, 0), x.curtain(0, 1));
        }
        Check.eachDue("the first CELL, the last", Check.row(0, 80), Check.hall("hall 9 9;bench 1 0 6 1;bench 2 0 0 1;bar 0 1;").curtain(0, 0),
                Check.hall("hall 9 9;bench 7 8 2 1;bench 6 8 0 1;bar 0 1;").curtain(11, 0));
        HallAnswers deaf = Check.hall("hall 9 3;bench 0 0 2 1 raised;bench 2 0 0 1;bar 0 1;curtain 1 0;");
        Check.due("a CELL that is not free", deaf.curtain(0, 0), Check.NONE);
        HallAnswers moving = Check.hall("hall 9 3;bench 0 0 2 50;bench 2 0 0 50;bench 8 0 0 50 moving;bench 1 0 0 1 moving;bar 0 1;");
        Check.eachDue("by the HOUR", Check.row(Check.NONE, 1, Check.NONE, 1), moving.curtain(0, 0), moving.curtain(1, 0),
                moving.curtain(2, 0), moving.curtain(3, 0));
        HallAnswers sit = Check.hall(THREE + "bar 0 1;");
        sit.sit(1, 2);
        Check.due("as they sit none is BROKEN", sit.curtain(0, 0), Check.NONE);
    }

    /** A BENCH in the first row on every CELL but one, where it does not matter who it HEARS. */
    private static String beside(int x, int free) {
        return x == free ? "" : "bench " + x + " 0 0 100;";
    }

    private static void curtainFewest() {
        // BENCHES 0, 2, 4 in a row: behind CELL 1 both are heard no more, behind CELL 3 the last alone
        String row = "hall 9 3;bench 0 0 2 1;bench 2 0 0 1;bench 4 0 0 1;";
        int[][] due = {{1, 0}, {3, 0}, {1, 1}, {Check.NONE, Check.NONE}, {3, 1}};
        String[] wants = {"bar 0 1;", "join 0 1;bar 0 2;", "join 0 1;bar 0 1;bar 0 2;", "join 0 1;join 0 2;", "bar 1 2;join 1 2;bar 0 2;join 0 1;"};
        for (int i = 0; i < wants.length; i++) {
            HallAnswers x = Check.hall(row + wants[i]);
            Check.eachDue(wants[i], Check.row(due[i][0], due[i][1]), x.curtain(0, 0), x.curtain(0, 1));
        }
        HallAnswers less = Check.hall(row + "join 0 1;bar 0 1;");
        Check.eachDue("as many as now are not fewer", Check.row(Check.NONE, Check.NONE, 2), less.curtain(0, 0), less.curtain(0, 1), less.broken(0));
    }

    private static void curtainRefuses() {
        Check.about("Promise 21", "BAD; NONE: there is none.");
        int[][] bad = {{-1, 0}, {12, 0}, {0, -1}, {0, 2}, {12, 2}, {Integer.MIN_VALUE, 1}, {Integer.MAX_VALUE, 1}, {0, Integer.MIN_VALUE},
            {0, Integer.MAX_VALUE}};
        for (int[] a : bad) {
            Twins.refused("curtain" + Arrays.toString(a), Check.BAD, Halls::rich, x -> x.curtain(a[0], a[1]));
            Twins.refused("clear" + Arrays.toString(a), Check.BAD, Halls::rich, x -> x.clear(a[0], a[1]));
            Twins.refused("best" + Arrays.toString(a), Check.BAD, Halls::rich, x -> x.best(a[0], a[1]));
        }
        for (int hour = 0; hour < 12; hour++) {
            int h = hour;
            Twins.same("what is tried is taken back, HOUR " + hour, Halls::rich, x -> {
                x.curtain(h, 0);
                x.clear(h, 0);
                x.best(h, 0);
                x.days(h, 9, 0);
                x.seating(h, 0);
                x.where(1, h, 0);
                x.without(1);
            });
        }
        Twins.refused("nothing is BROKEN", Check.NONE, () -> Check.hall(THREE + "join 0 1;pillar 8 0;"), x -> x.curtain(0, 1));
        Twins.refused("nothing is BROKEN", Check.NONE, () -> Check.hall(THREE + "join 0 1;pillar 8 0;"), x -> x.clear(0, 1));
        Twins.refused("no BENCHES", Check.NONE, Halls::empty, x -> x.curtain(11, 0));
    }

    private static void clearCells() {
        Check.about("Promise 22", "Likewise, a PILLAR or CURTAIN that is taken away. BAD; NONE.");
        for (String name : new String[]{"pillar ", "curtain "}) {
            HallAnswers x = Check.hall("hall 9 3;bench 0 0 2 88;bench 4 0 6 88;join 0 1;" + name + "2 0;" + name + "0 1;" + name + "8 2;");
            Check.eachDue(name, Check.row(2, 0, 3), x.clear(0, 0), x.clear(0, 1), x.count(2));
        }
        Check.eachDue("the first CELL, the last", Check.row(0, 80),
                Check.hall("hall 9 9;bench 1 0 6 1;bench 2 0 0 1;join 0 1;pillar 0 0;").clear(0, 0),
                Check.hall("hall 9 9;bench 7 8 2 1;bench 6 8 0 1;join 0 1;curtain 8 8;").clear(11, 0));
        HallAnswers two = Check.hall("hall 9 3;bench 0 0 2 88;bench 4 0 6 88;join 0 1;pillar 2 0;pillar 3 0;");
        Check.eachDue("one alone is not enough", Check.row(Check.NONE, Check.NONE), two.clear(0, 0), two.clear(0, 1));
        Check.due("none is there", Check.hall(THREE + "bar 0 1;").clear(0, 0), Check.NONE);
    }

    private static void clearFewest() {
        // BENCH 1 is kept from HEARING both sides, by CELLS 3 and 5
        String row = "hall 9 3;bench 0 0 2 1;bench 4 0 0 1;bench 8 0 6 1;pillar 3 0;curtain 5 0;";
        String[] wants = {"join 0 1;", "join 2 1;", "join 0 1;join 2 1;", "join 0 1;join 2 1;join 2 1;", "join 0 1;bar 0 1;", "bar 0 1;"};
        int[][] due = {{3, 0}, {5, 0}, {3, 1}, {5, 1}, {Check.NONE, Check.NONE}, {Check.NONE, Check.NONE}};
        for (int i = 0; i < wants.length; i++) {
            HallAnswers x = Check.hall(row + wants[i]);
            Check.eachDue(wants[i], Check.row(due[i][0], due[i][1]), x.clear(0, 0), x.clear(0, 1));
        }
    }

    private static void hours() {
        Check.about("Promise 23", "HOURS in which no WANT is BROKEN (bits).");
        Check.due("no WANTS", new HallAnswers().hours(), 4095);
        // DIRECTION 2 is its own in HOURS 2 less FACING, and 8 more
        for (int facing = 0; facing < 8; facing++) {
            HallAnswers x = Check.hall("hall 9 9;fade 20;bounce 50;bench 4 4 " + facing + " 1turned;bench 5 4 0 1;bench 6 4 0 1;join 0 1;");
            int first = (10 - facing) % 8;
            Check.due("FACING " + facing, x.hours(), first + 8 < 12 ? 1 << first | 1 << first + 8 : 1 << first);
            HallAnswers not = Check.hall("hall 9 9;fade 20;bounce 50;bench 4 4 " + facing + " 1turned;bench 5 4 0 1;bar 0 1;");
            Check.due("BARRED, FACING " + facing, not.hours(), 4095 - (first + 8 < 12 ? 1 << first | 1 << first + 8 : 1 << first));
        }
        Check.due("none", Check.hall(THREE + "join 0 1;bar 0 1;").hours(), 0);
        HallAnswers moving = Check.hall("hall 9 3;fade 20;bounce 50;bench 0 0 3 80moving;bench 8 0 6 80;join 1 0;");
        Check.due("HOUR 7 alone", moving.hours(), 1 << 7);
        HallAnswers deaf = Check.hall("hall 9 3;fade 20;bounce 50;bench 0 0 3 81moving;bench 8 0 6 80;join 1 0;");
        Check.due("too low for its EAR", deaf.hours(), 0);
        HallAnswers last = Check.hall("hall 9 3;fade 20;bounce 50;bench 5 0 0 80moving;bench 8 0 6 80;join 1 0;");
        Check.due("HOURS 2 and 11", last.hours(), 1 << 2 | 1 << 11);
    }

    private static void days() {
        Check.about("Promise 24", "Of pairs of BENCHES the second of which HEARS the first: how many (what 0), how many of these do with "
                + "warm v, too (1), how many others do then (2). BAD.");
        String row = "hall 9 3;fade 0;bounce 0;";
        for (int b = 0; b < 8; b++) {
            row += "bench " + b + " 0 2 1;";
        }
        HallAnswers x = Check.hall(row);
        Check.eachDue("all pairs", Check.row(56, 56, 0, 56), x.days(0, 0, 0), x.days(0, 0, 1), x.days(0, 0, 2), x.days(11, 9, 0));
        // with warm 1 it comes down in STEP 1: nobody HEARS it
        Check.eachDue("warm 1", Check.row(56, 0, 0), x.days(0, 1, 0), x.days(0, 1, 1), x.days(0, 1, 2));
        // with warm 9 the first 8 STEPS stay in the row: BENCHES 0 to 7 are HEARD by 7, 6, 5, 4, 3, 4, 5, 6
        Check.eachDue("warm 9", Check.row(56, 40), x.days(0, 9, 0), x.days(0, 9, 1));
        x.warm(1);
        Check.eachDue("from warm 1", Check.row(0, 0, 56, 40), x.days(0, 0, 0), x.days(0, 0, 1), x.days(0, 0, 2), x.days(0, 9, 2));
        int[][] bad = {{-1, 0, 0}, {12, 0, 0}, {0, -1, 0}, {0, 10, 0}, {0, 0, -1}, {0, 0, 3}, {Integer.MIN_VALUE, 0, 0},
            {0, Integer.MAX_VALUE, 0}, {0, 0, Integer.MIN_VALUE}};
        for (int[] a : bad) {
            Twins.refused("days" + Arrays.toString(a), Check.BAD, Halls::rich, y -> y.days(a[0], a[1], a[2]));
        }
    }

    private static void best() {
        Check.about("Promise 25", "The warm (0 to 9) by which the fewest WANTS are BROKEN, of several the least (what 0), how few (1). BAD.");
        Check.eachDue("all alike", Check.row(0, 0, 0, 8), new HallAnswers().best(0, 0), new HallAnswers().best(11, 1),
                Check.hall(THREE + "join 0 1;bar 0 1;".repeat(4)).best(0, 0), Check.hall(ASIDE + ASIDE + "join 0 1;".repeat(8)).best(0, 1));
        // in STEP v it is v / warm rows lower: one, by each warm that is more than half of v, and no more than v
        for (int v = 1; v <= 8; v++) {
            HallAnswers x = Check.hall("hall 9 3;fade 11;bounce 50;bench 0 0 2 1;bench " + v + " 1 0 " + (100 - 11 * v) + ";join 0 1;");
            Check.eachDue("the least that brings it to CELL " + (9 + v), Check.row(v / 2 + 1, 0), x.best(0, 0), x.best(0, 1));
            x.warm(9);
            Check.eachDue("whatever it is now", Check.row(v / 2 + 1, 0, 9), x.best(0, 0), x.best(0, 1), x.rule(4));
        }
        HallAnswers nine = Check.hall("hall 9 9;fade 1;bounce 0;bench 0 0 2 50;bench 7 1 6 91;bench 7 1 0 92;pillar 8 1;join 0 1;bar 0 2;");
        Check.eachDue("warm 9", Check.row(9, 0), nine.best(0, 0), nine.best(0, 1));
        HallAnswers turned = Check.hall("hall 9 3;fade 20;bounce 50;bench 0 0 0 80turned;bench 1 1 0 80;join 0 1;");
        Check.eachDue("by the HOUR", Check.row(1, 0, 0, 0, 1), turned.best(2, 0), turned.best(2, 1), turned.best(3, 0), turned.best(3, 1),
                turned.best(4, 1));
    }
}
