/** The edges that promises 10 to 12 name: what is hung, warm, who sits where. */
public final class ChangeEdgeTests {
    public static void main(String[] args) {
        hangTakes();
        hangEverywhere();
        hangRefuses();
        hangOnBenches();
        warm();
        sitTakes();
        sitChanges();
        sitRefuses();
        Check.finish("ChangeEdgeTests");
    }

    private static void hangTakes() {
        Check.about("Promise 10", "A CELL becomes free, a PILLAR, a CURTAIN (0, 1, 2): what it was.");
        for (int was = 0; was < 3; was++) {
            for (int becomes = 0; becomes < 3; becomes++) {
                HallAnswers x = new HallAnswers();
                Check.due("at first", x.hang(10, was), 0);
                Check.due(was + " becomes " + becomes, x.hang(10, becomes), was);
                Check.due("is so", x.cell(10), becomes);
                Check.eachDue("its neighbours are not", Check.row(0, 0, 0, 0), x.cell(9), x.cell(11), x.cell(1), x.cell(19));
            }
        }
        HallAnswers x = Check.hall("hall 4 5;pillar 3 4;");
        Check.eachDue("the first, the last", Check.row(0, 1, 2, 2), x.hang(0, 2), x.hang(39, 2), x.hang(39, 0), x.cell(0));
        HallAnswers y = Check.hall("hall 9 9;");
        Check.eachDue("the last of the greatest", Check.row(0, 1, 0), y.hang(80, 1), y.cell(80), y.hang(8, 1));
    }

    private static void hangEverywhere() {
        HallAnswers x = Check.hall("hall 9 9;bench 8 8 7 1;");
        for (int c = 0; c < 80; c++) {
            Check.due("CELL " + c, x.hang(c, 1 + c % 2), 0);
        }
        Check.eachDue("all but one are DEAF", Check.row(80, Check.STATE, 80, 0, 0), x.count(2), x.hang(80, 1), x.count(2),
                x.cell(80), x.steps(0, 0));
        Check.eachDue("none is left for a CURTAIN", Check.row(Check.NONE, 0), x.curtain(0, 0), x.where(1, 0, 0));
        for (int c = 0; c < 80; c++) {
            Check.due("CELL " + c, x.hang(c, 0), 1 + c % 2);
        }
        Check.eachDue("all are free", Check.row(0, 40), x.count(2), Check.hall("hall 9 9;fade 0;bench 8 8 7 1;").steps(0, 0));
    }

    private static void hangRefuses() {
        Check.about("Promise 10", "BAD; STATE: a BENCH was put there by the text, and it would be DEAF.");
        int[] cells = {-1, 8, 17, 53, 54, 63, 80, 81, Integer.MIN_VALUE, Integer.MAX_VALUE};
        for (int c : cells) {
            for (int what = 0; what < 3; what++) {
                int becomes = what;
                Twins.refused("hang(" + c + ", " + what + ")", Check.BAD, Halls::rich, x -> x.hang(c, becomes));
            }
        }
        for (int what : new int[]{-1, 3, Integer.MIN_VALUE, Integer.MAX_VALUE}) {
            Twins.refused("hang(20, " + what + ")", Check.BAD, Halls::rich, x -> x.hang(20, what));
            Twins.refused("BAD ahead of STATE", Check.BAD, Halls::rich, x -> x.hang(0, what));
        }
        int[] put = {0, 1, 11, 21, 31, 41, 51, 16};
        for (int b = 0; b < 8; b++) {
            int c = put[b];
            Check.due("where BENCH " + b + " was put", Halls.rich().bench(b, 0, 0), c);
            Twins.refused("a PILLAR on BENCH " + b, Check.STATE, Halls::rich, x -> x.hang(c, 1));
            Twins.refused("a CURTAIN on BENCH " + b, Check.STATE, Halls::rich, x -> x.hang(c, 2));
            Check.due("free on BENCH " + b, Halls.rich().hang(c, 0), 0);
        }
    }

    private static void hangOnBenches() {
        HallAnswers x = Check.hall("bench 2 2 0 1 moving;");
        Check.eachDue("where it was put, in whichever HOUR it is there", Check.row(Check.STATE, Check.STATE, 0), x.hang(20, 1),
                x.hang(20, 2), x.cell(20));
        Check.eachDue("where it moves to", Check.row(0, 0, 21), x.hang(21, 1), x.hang(22, 2), x.bench(0, 1, 0));
        HallAnswers empty = Check.hall("people 0;bench 2 2 0 1;");
        Check.due("where nobody sits", empty.hang(20, 1), Check.STATE);
        HallAnswers two = Check.hall("bench 2 2 0 1;");
        Check.tell(two, "bench 3 3 0 1;");
        Check.eachDue("by the text that is told now", Check.row(0, Check.STATE), two.hang(20, 1), two.hang(30, 1));
    }

    private static void warm() {
        Check.about("Promise 11", "warm becomes v (0 to 9): what it was. BAD.");
        HallAnswers x = new HallAnswers();
        int was = 0;
        for (int v : new int[]{9, 0, 0, 1, 8, 9, 9}) {
            Check.due("warm " + v, x.warm(v), was);
            Check.due("is so", x.rule(4), v);
            was = v;
        }
        for (int v : new int[]{-1, 10, Integer.MIN_VALUE, Integer.MAX_VALUE}) {
            Twins.refused("warm(" + v + ")", Check.BAD, Halls::rich, y -> y.warm(v));
        }
    }

    private static void sitTakes() {
        Check.about("Promise 12", "A ONE sits down on a BENCH; who sat there goes to his: that BENCH of his before.");
        HallAnswers x = Check.hall("bench 0 0 0 1;".repeat(8));
        Check.eachDue("the first, the last", Check.row(0, 5, 6, 7), x.sit(0, 7), x.sit(5, 6), x.sit(5, 0), x.sit(0, 5));
        seats(x, 5, 1, 2, 3, 4, 0, Check.NONE, Check.NONE);
        Check.eachDue("on his own", Check.row(5, 5), x.sit(0, 5), x.sit(0, 5));
        seats(x, 5, 1, 2, 3, 4, 0, Check.NONE, Check.NONE);
    }

    private static void sitChanges() {
        HallAnswers x = Check.hall("bench 0 0 0 1;".repeat(6));
        Check.due("all BENCHES are taken", x.sit(0, 5), 0);
        seats(x, 5, 1, 2, 3, 4, 0);
        Check.due("to one who has changed already", x.sit(3, 0), 3);
        seats(x, 3, 1, 2, 5, 4, 0);
        Check.due("back again", x.sit(3, 3), 0);
        seats(x, 5, 1, 2, 3, 4, 0);
        HallAnswers one = Check.hall("bench 0 0 0 1;");
        Check.eachDue("one ONE, one BENCH", Check.row(0, 0), one.sit(0, 0), one.bench(0, 0, 4));
    }

    private static void seats(HallAnswers x, int... sitters) {
        for (int b = 0; b < sitters.length; b++) {
            Check.due("who sits on BENCH " + b, x.bench(b, 11, 4), sitters[b]);
        }
    }

    private static void sitRefuses() {
        Check.about("Promise 12", "BAD.");
        int[][] bad = {{-1, 0}, {6, 0}, {7, 7}, {0, -1}, {0, 8}, {-1, 8}, {Integer.MIN_VALUE, 0}, {Integer.MAX_VALUE, 0},
            {0, Integer.MIN_VALUE}, {0, Integer.MAX_VALUE}};
        for (int[] a : bad) {
            Twins.refused("sit(" + a[0] + ", " + a[1] + ")", Check.BAD, Halls::rich, x -> x.sit(a[0], a[1]));
        }
        HallAnswers x = Check.hall("people 2;bench 0 0 0 1;bench 0 0 0 1;bench 0 0 0 1;");
        Check.eachDue("fewer PEOPLE than BENCHES", Check.row(Check.BAD, 1, Check.BAD), x.sit(2, 0), x.sit(1, 2), x.sit(0, 3));
        Check.due("no PEOPLE", Check.hall("people 0;bench 0 0 0 1;").sit(0, 0), Check.BAD);
    }
}
