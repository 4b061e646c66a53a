/** Promises 34 and 35: from whom, from which CELL it was HEARD. */
public final class PlaceTests {
    public static void main(String[] args) {
        from();
        where();
        whereItComesBack();
        whereHoursMatter();
        Check.finish("PlaceTests");
    }

    private static void from() {
        HallAnswers x = Check.hall("hall 9 3;bench 0 0 2 50;bench 4 0 6 50;bench 8 0 6 50;bench 8 2 0 50 turned;");
        Check.due("by 0 alone", x.from(1, 0), 0);
        Check.due("by 0 and 1", x.from(3, 0), 4);
        Check.due("by 1 and 2", x.from(6, 0), 1);
        Check.due("by 0 and 2", x.from(5, 0), 2);
        Check.due("by 2 alone", x.from(4, 0), 8);
        Check.due("by nobody", x.from(0, 0), 0);
        Check.due("by nobody in hour 2", x.from(0, 2), 8);
        Check.allDue("from", Check.BAD, x.from(-1, 0), x.from(16, 0), x.from(1, -1), x.from(1, 12), x.from(256, 0));
        Check.due("no benches", new HallAnswers().from(0, 0), 0);
        Check.due("no benches", new HallAnswers().from(1, 0), Check.BAD);
    }

    private static void where() {
        HallAnswers x = Check.hall("hall 3 3;fade 20;bounce 50;bench 1 1 0 80;");
        Check.due("from beside it", x.where(1, 0, 0), 8);
        Check.due("the first", x.where(1, 0, 1), 0);
        Check.due("its direction", x.where(1, 0, 2), 3);
        x.hang(0, 2);
        Check.due("a DEAF CELL is none", x.where(1, 0, 0), 7);
        Check.due("the first", x.where(1, 0, 1), 1);
        Check.due("its direction", x.where(1, 0, 2), 4);
        Check.allDue("where", Check.BAD, x.where(0, 0, 0), x.where(-1, 0, 0), x.where(2, 0, 0), x.where(1, -1, 0),
                x.where(1, 12, 0), x.where(1, 0, -1), x.where(1, 0, 3), new HallAnswers().where(1, 0, 0),
                new HallAnswers().where(0, 0, 0));
        HallAnswers y = Check.hall("hall 3 3;fade 20;bounce 50;bench 0 0 0 80;bench 2 2 0 80;");
        Check.due("by both: from none", y.where(3, 0, 0), 0);
        Check.allDue("by both: from none", Check.NONE, y.where(3, 0, 1), y.where(3, 0, 2));
        HallAnswers z = Check.hall("hall 9 3;fade 0;bounce 0;bench 0 0 2 100 raised;bench 8 0 2 100;curtain 4 0;");
        Check.due("the KIND of a BENCH there does not matter", z.where(3, 0, 0), 0);
        z.hang(4, 0);
        Check.due("without the curtain", z.where(3, 0, 1), 0);
        Check.due("its direction", z.where(3, 0, 2), 1);
    }

    private static void whereItComesBack() {
        HallAnswers x = Check.hall("hall 9 9;fade 1;bounce 50;bench 4 0 0 80;");
        Check.due("a WHISPER begins on the BENCH, and is too low as it comes back", x.where(1, 0, 1), 0);
        HallAnswers y = Check.hall("hall 3 3;fade 10;bounce 0;bench 0 0 0 70;pillar 1 0;pillar 0 1;pillar 2 0;pillar 0 2;"
                + "pillar 2 2;pillar 1 2;pillar 2 1;");
        Check.due("beside it", y.where(1, 0, 0), 1);
        Check.due("is the first", y.where(1, 0, 1), 10);
        y.hang(20, 0);
        Check.due("two, and the BENCH itself", y.where(1, 0, 0), 2);
        HallAnswers z = Check.hall("hall 3 3;fade 10;bounce 0;bench 0 0 0 60;pillar 1 0;pillar 0 1;pillar 2 0;pillar 0 2;"
                + "pillar 1 2;pillar 2 1;");
        Check.due("the BENCH's own CELL, too", z.where(1, 0, 0), 3);
        Check.due("is the first", z.where(1, 0, 1), 0);
        Check.due("its direction: turned round at once, too", z.where(1, 0, 2), 1);
    }

    private static void whereHoursMatter() {
        HallAnswers x = Check.hall("hall 9 3;fade 20;bounce 50;bench 0 0 0 80 moving;bench 8 2 0 1;");
        Check.due("hour 0", x.where(1, 0, 1), 1);
        Check.due("hour 4", x.where(1, 4, 1), 3);
        Check.due("warm days", x.warm(1), 0);
        Check.due("all comes down", x.where(1, 4, 0), 0);
    }
}
