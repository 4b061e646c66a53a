/** Promises 18 to 25: PEOPLE on their seats, what could be changed, warm days. */
public final class SeatTests {
    /** BENCHES 0 and 1 HEAR one another, BENCH 2 is HEARD by nobody and HEARS nobody. */
    private static final String THREE = "hall 9 3;bench 0 0 2 50;bench 4 0 6 50;bench 8 2 0 50;";

    public static void main(String[] args) {
        can();
        broken();
        seating();
        seatingOfMany();
        curtain();
        curtainNotOnBenches();
        clear();
        hours();
        days();
        best();
        Check.finish("SeatTests");
    }

    private static void can() {
        HallAnswers x = Check.hall(THREE + "people 2;");
        Check.due("0 to 1", x.can(0, 1, 0), 1);
        Check.due("1 to 0", x.can(1, 0, 0), 1);
        x.sit(1, 2);
        Check.due("sitting aside", x.can(0, 1, 0), 0);
        x.sit(0, 1);
        x.sit(1, 0);
        Check.due("they changed", x.can(0, 1, 0), 1);
        Check.allDue("can", Check.BAD, x.can(0, 0, 0), x.can(2, 0, 0), x.can(0, 2, 0), x.can(-1, 0, 0), x.can(0, -1, 0),
                x.can(0, 1, -1), x.can(0, 1, 12));
        HallAnswers y = Check.hall("hall 9 3;bench 0 0 2 1;bench 4 0 2 99;");
        Check.due("one way", y.can(0, 1, 0), 0);
        Check.due("the other way", y.can(1, 0, 0), 1);
    }

    private static void broken() {
        HallAnswers x = Check.hall(THREE + "join 0 1;bar 1 0;join 0 2;bar 2 0;bar 2 1;join 1 0;");
        Check.due("broken", x.broken(0), 2 + 4);
        x.sit(0, 2);
        Check.due("ONE 2 sits where ONE 0 sat", x.broken(0), 1 + 4 + 16 + 32);
        Check.allDue("broken", Check.BAD, x.broken(-1), x.broken(12));
        Check.due("no wants", Check.hall(THREE).broken(0), 0);
        HallAnswers z = Check.hall("bench 0 6 0 99;".repeat(5) + "bench 7 0 6 1;"
                + "bench 6 6 0 99;bench 6 0 2 1;join 0 5;join 5 0;");
        z.sit(0, 7);
        Check.due("on BENCH 7", z.broken(0), 0);
        Check.due("SEATINGS with ONE 5", z.seating(0, 1), 2 * 5 * 6 * 4 * 3);
        Check.due("no one BROKEN", z.seating(0, 0), 0);
        Check.due("ONE 0", z.seating(0, 10), 5);
        Check.due("ONE 5", z.seating(0, 15), 7);
        HallAnswers y = Check.hall("hall 9 3;bench 0 0 1 97 turned;bench 1 0 6 97;join 0 1;");
        Check.due("hour 0", y.broken(0), 1);
        Check.due("hour 1", y.broken(1), 0);
    }

    private static void seating() {
        HallAnswers x = Check.hall(THREE + "people 2;bar 0 1;bar 1 0;");
        x.sit(0, 2);
        Check.due("fewest", x.seating(0, 0), 0);
        Check.due("how many", x.seating(0, 1), 4);
        Check.due("ONE 0 in the first", x.seating(0, 10), 0);
        Check.due("ONE 1 in the first", x.seating(0, 11), 2);
        Check.due("PEOPLE sit as they sat", x.bench(2, 0, 4), 0);
        Check.allDue("seating", Check.BAD, x.seating(0, 12), x.seating(0, 9), x.seating(0, 2), x.seating(0, -1),
                x.seating(-1, 0), x.seating(12, 0), x.seating(0, 16), x.seating(0, Integer.MIN_VALUE),
                x.seating(0, Integer.MAX_VALUE));
        HallAnswers y = Check.hall(THREE + "join 0 1;bar 0 1;join 0 2;");
        Check.due("one is BROKEN at least", y.seating(0, 0), 1);
        Check.due("ways", y.seating(0, 1), 2);
        Check.due("ONE 0", y.seating(0, 10), 0);
        Check.due("ONE 1", y.seating(0, 11), 2);
        Check.due("ONE 2", y.seating(0, 12), 1);
        HallAnswers z = Check.hall(THREE + "people 0;");
        Check.due("of nobody", z.seating(3, 1), 1);
        Check.due("of nobody", z.seating(3, 0), 0);
        Check.due("of nobody", z.seating(3, 10), Check.BAD);
    }

    private static void seatingOfMany() {
        HallAnswers x = Check.hall("bench 0 0 0 1;bench 1 0 0 1;bench 2 0 0 1;bench 3 0 0 1;bench 4 0 0 1;bench 5 0 0 1;"
                + "bench 6 0 0 1;bench 7 0 0 1;");
        Check.due("all seatings", x.seating(0, 1), 20160);
        for (int p = 0; p < 6; p++) {
            Check.due("the first one, ONE " + p, x.seating(0, 10 + p), p);
        }
        Check.due("six people", x.seating(0, 16), Check.BAD);
        HallAnswers y = Check.hall("hall 9 3;fade 0;bench 5 1 0 100;bench 0 0 2 100;bench 8 0 6 1 turned;people 2;join 1 0;");
        Check.due("hour 0", y.seating(0, 1), 2);
        Check.due("ONE 0", y.seating(0, 10), 1);
        Check.due("ONE 1", y.seating(0, 11), 2);
        Check.due("hour 1", y.seating(1, 1), 1);
        Check.due("ONE 0 in hour 1", y.seating(1, 10), 2);
    }

    private static void curtain() {
        HallAnswers x = Check.hall("hall 9 3;bench 0 0 2 50;bench 4 0 6 50;bar 0 1;");
        Check.due("the first CELL between", x.curtain(0, 0), 1);
        Check.due("none is BROKEN", x.curtain(0, 1), 0);
        Check.due("it is not hung", x.count(2), 0);
        x.hang(1, 1);
        Check.due("none is better", x.curtain(0, 0), Check.NONE);
        Check.due("none is better", x.curtain(0, 1), Check.NONE);
        Check.allDue("curtain", Check.BAD, x.curtain(-1, 0), x.curtain(12, 0), x.curtain(0, -1), x.curtain(0, 2));
        HallAnswers y = Check.hall("hall 9 3;bench 0 0 2 50 raised;bench 4 0 6 50;bar 0 1;");
        Check.due("a raised one", y.curtain(0, 0), Check.NONE);
        HallAnswers z = Check.hall("hall 9 3;bench 0 0 2 20;bench 2 0 0 20;bench 4 0 0 20;bar 0 1;join 0 2;bar 0 2;bar 0 2;");
        Check.due("the fewest, not the first", z.curtain(0, 0), 1);
        Check.due("one stays", z.curtain(0, 1), 1);
        HallAnswers v = Check.hall("hall 9 3;bench 0 0 2 20;bench 2 0 0 20;bench 4 0 0 20;join 0 1;join 0 1;bar 0 2;");
        Check.due("the fewest", v.curtain(0, 0), 3);
        v.hang(3, 1);
        Check.due("a pillar is not free", v.curtain(0, 0), Check.NONE);
    }

    private static void curtainNotOnBenches() {
        HallAnswers x = Check.hall("hall 9 3;bench 0 0 2 50;bench 2 0 6 50;bench 8 0 0 50 moving;bar 0 1;");
        Check.due("hour 0", x.curtain(0, 0), 1);
        Check.due("a BENCH has moved there", x.curtain(2, 0), Check.NONE);
        Check.due("BENCH 0 has moved there", Check.hall("hall 9 3;bench 7 0 0 50 moving;bench 0 0 2 50;bench 2 0 6 50;"
                + "bar 1 2;").curtain(3, 0), Check.NONE);
        Check.due("CELL 0", Check.hall("hall 9 3;bench 1 0 6 50;bench 2 0 2 50;bar 0 1;").curtain(0, 0), 0);
        Check.due("the last CELL", Check.hall("hall 9 9;bench 7 8 2 50;bench 6 8 2 50;bar 0 1;").curtain(0, 0), 80);
        Check.due("where it was put is free then", Check.hall("hall 9 3;bench 0 0 2 50;bench 2 0 6 50;"
                + "bench 1 0 0 50 moving;bar 0 1;").curtain(1, 0), 1);
        Check.due("nor where it is put", Check.hall("hall 9 3;bench 0 0 2 50;bench 2 0 6 50;"
                + "bench 1 0 0 50 moving;bar 0 1;").curtain(0, 0), Check.NONE);
    }

    private static void clear() {
        HallAnswers x = Check.hall("hall 9 3;bench 0 0 2 50;bench 4 0 6 50;join 0 1;join 1 0;pillar 1 2;curtain 2 0;");
        Check.due("the curtain", x.clear(0, 0), 2);
        Check.due("none is BROKEN", x.clear(0, 1), 0);
        Check.due("it hangs still", x.cell(2), 2);
        x.hang(2, 1);
        Check.due("the pillar", x.clear(0, 0), 2);
        x.hang(3, 1);
        Check.due("one is not enough", x.clear(0, 0), Check.NONE);
        Check.due("one is not enough", x.clear(0, 1), Check.NONE);
        Check.allDue("clear", Check.BAD, x.clear(-1, 0), x.clear(12, 0), x.clear(0, -1), x.clear(0, 2));
        HallAnswers y = Check.hall("hall 9 3;bench 0 0 2 20;bench 2 0 0 20;bench 8 0 6 20;join 0 1;join 2 1;join 2 1;"
                + "pillar 1 0;pillar 4 0;");
        Check.due("the fewest, not the first", y.clear(0, 0), 4);
        Check.due("one stays", y.clear(0, 1), 1);
        HallAnswers z = Check.hall("hall 3 3;bench 0 0 2 20;bench 2 0 0 20;join 0 1;join 0 1;");
        z.hang(1, 2);
        Check.due("a hung one", z.clear(5, 0), 1);
    }

    private static void hours() {
        HallAnswers x = Check.hall("hall 9 3;bench 0 0 1 97 turned;bench 1 0 6 97;join 0 1;");
        Check.due("hours", x.hours(), 2 + (2 << 8));
        x.warm(1);
        Check.due("none on a warm day", x.hours(), 0);
        Check.due("all", Check.hall(THREE + "bar 0 2;").hours(), 4095);
    }

    private static void days() {
        HallAnswers x = Check.hall("hall 9 3;fade 1;bench 0 0 2 50;bench 4 0 6 50;bench 4 1 2 50;bench 8 2 0 50;");
        Check.due("now", x.days(0, 4, 0), 2);
        Check.due("both", x.days(0, 4, 1), 0);
        Check.due("then alone", x.days(0, 4, 2), 4);
        Check.due("warm is as it was", x.rule(4), 0);
        Check.due("the same day", x.days(0, 0, 1), 2);
        Check.due("the same day", x.days(0, 0, 2), 0);
        x.warm(4);
        Check.due("warm 4 now", x.days(0, 0, 0), 4);
        Check.due("warm 0 then", x.days(0, 0, 2), 2);
        Check.allDue("days", Check.BAD, x.days(-1, 0, 0), x.days(12, 0, 0), x.days(0, -1, 0), x.days(0, 10, 0),
                x.days(0, 0, -1), x.days(0, 0, 3));
        Check.due("no benches", new HallAnswers().days(0, 9, 0), 0);
    }

    private static void best() {
        HallAnswers x = Check.hall("hall 9 3;fade 1;bench 0 0 2 50;bench 4 1 6 50;join 0 1;");
        x.warm(7);
        Check.due("warm 3, say, and less", x.best(0, 0), 3);
        Check.due("none is BROKEN", x.best(0, 1), 0);
        Check.due("warm is as it was", x.rule(4), 7);
        HallAnswers y = Check.hall("hall 9 3;bench 0 0 2 50;bench 4 1 6 50;join 0 1;bar 0 1;");
        Check.due("all alike", y.best(0, 0), 0);
        Check.due("one is BROKEN", y.best(0, 1), 1);
        Check.due("warm 9", Check.hall("hall 5 3;fade 1;bounce 0;bench 1 0 2 50;bench 2 1 0 50;join 0 1;").best(0, 1), 0);
        HallAnswers z = Check.hall("hall 9 9;fade 1;bounce 0;bench 0 0 2 50;bench 7 1 6 91;bench 7 1 0 92;pillar 8 1;"
                + "join 0 1;bar 0 2;");
        Check.due("warm 9 alone", z.best(0, 0), 9);
        Check.due("warm 9 alone", z.best(0, 1), 0);
        Check.allDue("best", Check.BAD, x.best(-1, 0), x.best(12, 0), x.best(0, -1), x.best(0, 2));
    }
}
