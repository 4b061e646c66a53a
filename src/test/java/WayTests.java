/** Promises 10 to 17: what is changed, a whisper's way, who hears it. */
public final class WayTests {
    public static void main(String[] args) {
        hang();
        warm();
        sit();
        way();
        corners();
        directions();
        warmWay();
        endings();
        raisedWay();
        hears();
        heard();
        answer();
        Check.finish("WayTests");
    }

    private static void hang() {
        HallAnswers x = Check.hall("hall 4 3;bench 1 1 2 1;bench 0 2 2 1 moving;curtain 3 2;");
        Check.due("a pillar", x.hang(0, 1), 0);
        Check.due("is there", x.cell(0), 1);
        Check.due("a curtain", x.hang(0, 2), 1);
        Check.due("is there", x.cell(0), 2);
        Check.due("free", x.hang(0, 0), 2);
        Check.due("is free", x.cell(0), 0);
        Check.due("told curtain", x.hang(21, 0), 2);
        Check.allDue("on a bench", Check.STATE, x.hang(10, 1), x.hang(10, 2), x.hang(18, 1));
        Check.allDue("a bench's cell is free", 0, x.hang(10, 0), x.cell(10));
        Check.due("where a bench comes by moving", x.hang(19, 1), 0);
        Check.due("the bench is there", x.bench(1, 1, 0), 19);
        Check.allDue("hang", Check.BAD, x.hang(-1, 0), x.hang(4, 0), x.hang(27, 0), x.hang(81, 0), x.hang(0, -1),
                x.hang(0, 3), x.hang(10, 3), x.hang(Integer.MAX_VALUE, 1));
        Check.due("deaf cells", x.count(2), 1);
    }

    private static void warm() {
        HallAnswers x = Check.hall("warm 4;");
        Check.due("warm", x.warm(9), 4);
        Check.allDue("warm", Check.BAD, x.warm(-1), x.warm(10), x.warm(Integer.MIN_VALUE));
        Check.due("warm", x.warm(0), 9);
        Check.due("warm", x.rule(4), 0);
    }

    private static void sit() {
        HallAnswers x = Check.hall("people 2;bench 0 0 0 1;bench 1 0 0 1;bench 2 0 0 1;");
        Check.due("to a bench of nobody", x.sit(0, 2), 0);
        seats(x, Check.NONE, 1, 0);
        Check.due("they change", x.sit(1, 2), 1);
        seats(x, Check.NONE, 0, 1);
        Check.due("to his own", x.sit(1, 2), 2);
        seats(x, Check.NONE, 0, 1);
        Check.allDue("sit", Check.BAD, x.sit(-1, 0), x.sit(2, 0), x.sit(0, -1), x.sit(0, 3), x.sit(6, 8));
        seats(x, Check.NONE, 0, 1);
        HallAnswers y = Check.hall("bench 0 0 0 1;bench 1 0 0 1;bench 2 0 0 1;bench 3 0 0 1;bench 4 0 0 1;bench 5 0 0 1;"
                + "bench 6 0 0 1;bench 7 0 0 1;");
        Check.due("ONE 5 to BENCH 7", y.sit(5, 7), 5);
        Check.due("ONE 0 to BENCH 7", y.sit(0, 7), 0);
        seats(y, 5, 1, 2, 3, 4, Check.NONE, Check.NONE, 0);
    }

    private static void seats(HallAnswers x, int... sitters) {
        for (int b = 0; b < sitters.length; b++) {
            Check.due("who sits on " + b, x.bench(b, 0, 4), sitters[b]);
        }
    }

    private static void way() {
        HallAnswers x = Check.hall("hall 5 3;bench 1 1 2 1;");
        int[] xs = {1, 2, 3, 4, 3, 2, 1, 0, 1, 2};
        for (int i = 0; i < xs.length; i++) {
            Check.due("step " + i, x.way(0, 0, i), 9 + xs[i]);
        }
        Check.due("steps", x.steps(0, 0), 23);
        Check.due("the last", x.way(0, 0, 23), 9);
        Check.allDue("behind it", Check.NONE, x.way(0, 0, 24), x.way(0, 0, 40));
        Check.allDue("way", Check.BAD, x.way(0, 0, 41), x.way(0, 0, -1), x.way(1, 0, 0), x.way(-1, 0, 0),
                x.way(0, 12, 0), x.way(0, -1, 0), x.steps(1, 0), x.steps(-1, 0), x.steps(0, 12), x.steps(0, -1));
        HallAnswers y = Check.hall("hall 3 3;fade 0;bounce 0;bench 0 0 2 1;");
        Check.due("forty at most", y.steps(0, 0), 40);
        Check.due("step 40", y.way(0, 0, 40), 0);
    }

    private static void corners() {
        HallAnswers x = Check.hall("hall 3 3;fade 1;bounce 10;bench 1 1 3 1;bench 0 0 0 1;");
        int[] way = {10, 20, 10, 0, 10, 20};
        for (int i = 0; i < way.length; i++) {
            Check.due("step " + i, x.way(0, 0, i), way[i]);
        }
        Check.due("x and y bounce each", x.hears(0, 1, 0, 2), 2);
        Check.due("loud", x.hears(0, 1, 0, 0), 100 - 3 - 20);
        Check.due("steps", x.steps(0, 0), 9);
    }

    private static void directions() {
        int[] first = {31, 32, 41, 50, 49, 48, 39, 30};
        for (int d = 0; d < 8; d++) {
            HallAnswers x = Check.hall("bench 4 4 " + d + " 1;bench 4 4 0 1 turned;bench 4 4 0 1 moving;");
            Check.due("facing " + d, x.way(0, 0, 1), first[d]);
            Check.due("turned by hour " + d, x.way(1, d, 1), first[d]);
            int begin = 36 + (4 + d) % 9;
            Check.due("moved by hour " + d, x.way(2, d, 0), begin);
        }
        HallAnswers y = Check.hall("bench 4 4 0 1 moving;bench 4 4 6 1 turned;");
        Check.due("moved and turned", y.way(0, 2, 1), 43);
        Check.due("turned beyond 7", y.way(1, 11, 1), 32);
    }

    private static void warmWay() {
        HallAnswers x = Check.hall("hall 9 4;fade 1;bench 0 0 2 1;warm 2;");
        int[] way = {0, 1, 11, 12, 22, 23, 33, 34, 35, 34};
        for (int i = 0; i < way.length; i++) {
            Check.due("warm 2, step " + i, x.way(0, 0, i), way[i]);
        }
        x.warm(1);
        int[] hotter = {0, 10, 20, 30, 31};
        for (int i = 0; i < hotter.length; i++) {
            Check.due("warm 1, step " + i, x.way(0, 0, i), hotter[i]);
        }
        HallAnswers y = Check.hall("hall 3 5;fade 1;warm 1;bench 1 3 0 1;bench 1 1 4 1;");
        Check.due("up is held", y.way(0, 0, 1), 28);
        Check.due("up is held", y.way(0, 0, 2), 28);
        int[] down = {10, 28, 37, 37, 37};
        for (int i = 0; i < down.length; i++) {
            Check.due("down, step " + i, y.way(1, 0, i), down[i]);
        }
        HallAnswers z = Check.hall("hall 5 3;warm 1;bench 0 0 2 1;pillar 1 0;");
        Check.due("the CELL beside the way is not come to", z.way(0, 0, 1), 10);
        z.hang(10, 1);
        Check.due("this one is", z.steps(0, 0), 0);
    }

    private static void endings() {
        HallAnswers x = Check.hall("hall 9 3;fade 20;bounce 0;bench 0 0 2 1;");
        Check.due("loud 0 is not come to", x.steps(0, 0), 4);
        Check.due("LOUD 1 is", Check.hall("hall 9 3;fade 11;bounce 0;bench 0 0 2 1;").steps(0, 0), 9);
        HallAnswers y = Check.hall("hall 3 3;fade 0;bounce 50;bench 0 0 2 1;");
        Check.due("two bounces end it", y.steps(0, 0), 4);
        HallAnswers z = Check.hall("bench 0 0 2 1;curtain 5 0;pillar 7 0;");
        Check.due("by a curtain", z.steps(0, 0), 4);
        Check.due("ended", z.way(0, 0, 5), Check.NONE);
        z.hang(5, 0);
        Check.due("by a pillar", z.steps(0, 0), 6);
        HallAnswers m = Check.hall("hall 9 3;bench 0 0 1 1 moving;pillar 1 0;");
        Check.due("it begins on a DEAF CELL, too", m.way(0, 1, 1), 2);
    }

    private static void raisedWay() {
        HallAnswers x = Check.hall("hall 9 3;bench 0 0 2 1 raised;curtain 3 0;pillar 6 0;bench 4 0 2 1;");
        Check.due("curtains do not swallow it, pillars do", x.steps(0, 0), 5);
        Check.due("heard behind a curtain", x.hears(0, 1, 0, 1), 4);
    }

    private static void hears() {
        HallAnswers x = Check.hall("hall 5 3;bench 1 1 2 1;bench 0 1 2 74;bench 3 1 2 94;bench 4 1 2 92;bench 1 1 0 77;"
                + "bench 2 0 0 1;");
        Check.due("loud", x.hears(0, 1, 0, 0), 74);
        Check.due("late", x.hears(0, 1, 0, 1), 7);
        Check.due("bounces", x.hears(0, 1, 0, 2), 1);
        Check.due("loud enough", x.hears(0, 2, 0, 0), 94);
        Check.due("no bounces", x.hears(0, 2, 0, 2), 0);
        Check.allDue("too low for the EAR", Check.NONE, x.hears(0, 3, 0, 0), x.hears(0, 3, 0, 1), x.hears(0, 3, 0, 2));
        Check.due("on the same CELL, when it comes back", x.hears(0, 4, 0, 1), 6);
        Check.due("beside the way", x.hears(0, 5, 0, 0), Check.NONE);
        Check.allDue("hears", Check.BAD, x.hears(0, 0, 0, 0), x.hears(-1, 0, 0, 0), x.hears(0, -1, 0, 0), x.hears(6, 0, 0, 0),
                x.hears(0, 6, 0, 0), x.hears(0, 1, -1, 0), x.hears(0, 1, 12, 0), x.hears(0, 1, 0, -1), x.hears(0, 1, 0, 3));
        Check.due("by STEP 40", Check.hall("hall 4 8;fade 0;bounce 0;bench 1 2 5 1;bench 3 0 0 1;").hears(0, 1, 0, 1), 40);
        HallAnswers y = Check.hall("hall 5 3;bench 0 0 2 100;bench 4 0 6 90;bench 4 0 6 90 listening;");
        Check.due("EAR 90", y.hears(0, 1, 0, 0), Check.NONE);
        Check.due("EAR 45", y.hears(0, 2, 0, 0), 88);
    }

    private static void heard() {
        HallAnswers x = Check.hall("hall 5 3;bench 1 1 2 1;bench 0 1 2 74;bench 3 1 2 94;bench 4 1 2 92;bench 1 1 0 77;"
                + "bench 0 0 2 1 turned;");
        Check.due("heard", x.heard(0, 0), 22);
        Check.due("not itself", x.heard(4, 0), 1);
        Check.due("turned, hour 0", x.heard(5, 0), 0);
        Check.due("turned, hour 2", x.heard(5, 2), 2);
        Check.allDue("heard", Check.BAD, x.heard(-1, 0), x.heard(6, 0), x.heard(0, -1), x.heard(0, 12));
    }

    private static void answer() {
        HallAnswers x = Check.hall("hall 9 3;bench 0 0 2 50;bench 4 0 6 50;bench 8 2 6 1;bench 7 2 0 1 turned;");
        Check.due("they hear one another", x.answer(0, 0), 1);
        Check.due("they hear one another", x.answer(1, 0), 0);
        Check.due("it is not answered", x.answer(2, 0), Check.NONE);
        Check.due("nobody hears it", x.answer(3, 0), Check.NONE);
        Check.due("turned to the other", x.answer(3, 2), 2);
        Check.allDue("answer", Check.BAD, x.answer(-1, 0), x.answer(4, 0), x.answer(0, -1), x.answer(0, 12));
        HallAnswers y = Check.hall("hall 9 3;bench 0 0 2 50;bench 4 0 6 50;bench 2 0 0 50;");
        Check.due("two hear it", y.answer(0, 0), Check.NONE);
        y = Check.hall("hall 9 3;bench 0 0 2 92;bench 3 0 6 50;bench 8 0 0 50;bench 2 0 6 100;");
        Check.due("one hears it alone, that one is heard by one alone", y.answer(0, 0), Check.NONE);
    }
}
