/** The edges that Terms name of the hall: CELLS, RULES, BENCHES, HOURS, KINDS, PEOPLE, WANTS, SECRETS. */
public final class HallEdgeTests {
    public static void main(String[] args) {
        hallSizes();
        cellNumbers();
        cellsAreFreeOrDeaf();
        ruleBounds();
        benchesAtMost();
        benchNumbers();
        facings();
        hours();
        turned();
        moving();
        raised();
        listening();
        peopleCounts();
        peopleSit();
        wantsAtMost();
        secrets();
        Check.finish("HallEdgeTests");
    }

    private static void hallSizes() {
        Check.about("Terms", "CELLS x from 0 to wide less 1, y from 0 to high less 1 (3 to 9 each; 9, 7)");
        int[] sizes = {3, 4, 8, 9};
        for (int wide : sizes) {
            for (int high : sizes) {
                HallAnswers x = Check.hall("hall " + wide + " " + high + ";");
                Check.due("wide", x.rule(0), wide);
                Check.due("high", x.rule(1), high);
                Check.due("the last CELL", x.cell(9 * (high - 1) + wide - 1), 0);
                Check.due("its right neighbour", x.cell(9 * (high - 1) + wide), Check.BAD);
                Check.due("the CELL below it", x.cell(9 * high + wide - 1), Check.BAD);
                Check.due("the end of the first row", x.cell(wide - 1), 0);
                Check.due("behind the first row", x.cell(wide), wide == 9 ? 0 : Check.BAD);
                Check.due("the last row's first CELL", x.cell(9 * high - 9), 0);
                Check.due("the first CELL below the hall", x.cell(9 * high), Check.BAD);
            }
        }
        HallAnswers x = new HallAnswers();
        Check.eachDue("at first", Check.row(9, 7, 0, Check.BAD), x.rule(0), x.rule(1), x.cell(62), x.cell(63));
        Check.dueFault("hall 2 3;", 3, 5);
        Check.dueFault("hall 10 3;", 3, 5);
        Check.dueFault("hall 3 2;", 3, 7);
        Check.dueFault("hall 3 10;", 3, 7);
        Check.dueFault("hall 0 3;", 3, 5);
        Check.dueFault("hall 9 999;", 3, 7);
    }

    private static void cellNumbers() {
        Check.about("Terms", "a CELL's number is 9 times y and x");
        HallAnswers x = Check.hall("hall 3 9;bench 0 0 0 1;bench 2 0 0 1;bench 0 1 0 1;bench 2 8 0 1;pillar 1 8;");
        Check.eachDue("BENCHES", Check.row(0, 2, 9, 74), x.bench(0, 0, 0), x.bench(1, 0, 0), x.bench(2, 0, 0), x.bench(3, 0, 0));
        Check.eachDue("9 also in a narrow hall", Check.row(1, 0, Check.BAD), x.cell(73), x.cell(18), x.cell(12));
        Check.due("the greatest", Check.hall("hall 9 9;bench 8 8 0 1;").bench(0, 0, 0), 80);
    }

    private static void cellsAreFreeOrDeaf() {
        Check.about("Terms", "A CELL is free, or DEAF: a PILLAR, a CURTAIN.");
        HallAnswers x = Check.hall("pillar 0 0;curtain 8 6;");
        Check.eachDue("the first, the next, the last", Check.row(1, 0, 2, 2), x.cell(0), x.cell(1), x.cell(62), x.count(2));
        Check.due("none", new HallAnswers().count(2), 0);
    }

    private static void ruleBounds() {
        Check.about("Terms", "RULES: 0 wide, 1 high, 2 fade (0 to 20; 3), 3 bounce (0 to 50; 5), 4 warm (0 to 9; 0).");
        String[] names = {"fade", "bounce", "warm"};
        int[] most = {20, 50, 9};
        int[] atFirst = {3, 5, 0};
        for (int i = 0; i < 3; i++) {
            int place = names[i].length() + 1;
            Check.due("at first " + names[i], new HallAnswers().rule(2 + i), atFirst[i]);
            Check.due("as at first " + names[i], Check.hall("people 0;").rule(2 + i), atFirst[i]);
            Check.due("least " + names[i], Check.hall(names[i] + " 0;").rule(2 + i), 0);
            Check.due("most " + names[i], Check.hall(names[i] + " " + most[i] + ";").rule(2 + i), most[i]);
            // what was told ahead, fade 17, stays
            Check.dueFault(names[i] + " " + (most[i] + 1) + ";", 3, place);
            Check.dueFault(names[i] + " 999;", 3, place);
            Check.dueFault(names[i] + " -1;", 1, place);
        }
    }

    private static void benchesAtMost() {
        Check.about("Terms", "BENCHES (8 at most)");
        String bench = "bench 0 0 0 1;";
        for (int n = 0; n <= 8; n++) {
            HallAnswers x = Check.hall(bench.repeat(n));
            Check.due("BENCHES", x.count(0), n);
            Check.due("the last", x.bench(n - 1, 0, 2), n == 0 ? Check.BAD : 1);
            Check.due("behind the last", x.bench(n, 0, 2), Check.BAD);
        }
        Check.dueFault(bench.repeat(9), 5, 112);
    }

    private static void benchNumbers() {
        Check.about("Terms", "FACING (0 to 7), EAR (1 to 100), a KIND");
        HallAnswers x = Check.hall("hall 9 9;bench 0 0 0 1;bench 8 8 7 100 listening;");
        Check.eachDue("the least", Check.row(0, 0, 1, 0), x.bench(0, 0, 0), x.bench(0, 0, 1), x.bench(0, 0, 2), x.bench(0, 0, 3));
        Check.eachDue("the greatest", Check.row(80, 7, 50, 4), x.bench(1, 0, 0), x.bench(1, 0, 1), x.bench(1, 0, 2),
                x.bench(1, 0, 3));
        Check.due("EAR 100", Check.hall("bench 0 0 0 100;").bench(0, 0, 2), 100);
        Check.dueFault("bench 9 0 0 1;", 3, 6);
        Check.dueFault("bench 0 9 0 1;", 3, 8);
        Check.dueFault("bench 0 0 8 1;", 3, 10);
        Check.dueFault("bench 0 0 0 0;", 3, 12);
        Check.dueFault("bench 0 0 0 101;", 3, 12);
        Check.dueFault("bench 999 0 0 1;", 3, 6);
        Check.dueFault("bench 0 0 0 000;", 3, 12);
    }

    private static void facings() {
        Check.about("Terms", "FACING: 0 up (y one less), 1 up and right (x one more), 2 right, 3 down and right, 4 down, "
                + "5 down and left, 6 left, 7 up and left.");
        int[] first = {31, 32, 41, 50, 49, 48, 39, 30};
        for (int d = 0; d < 8; d++) {
            Check.due("FACING " + d, Check.hall("bench 4 4 " + d + " 1;").way(0, 0, 1), first[d]);
        }
    }

    private static void hours() {
        Check.about("Terms", "HOURS 0 to 11.");
        HallAnswers x = Check.hall("bench 0 0 0 1 turned;bench 5 5 0 1;");
        Check.eachDue("the first, the last", Check.row(0, 3), x.bench(0, 0, 1), x.bench(0, 11, 1));
        for (int hour : new int[]{-1, 12, 13, Integer.MIN_VALUE, Integer.MAX_VALUE}) {
            Check.allDue("HOUR " + hour, Check.BAD, x.bench(0, hour, 0), x.way(0, hour, 0), x.steps(0, hour),
                    x.hears(0, 1, hour, 0), x.heard(0, hour), x.answer(0, hour), x.can(0, 1, hour), x.broken(hour),
                    x.seating(hour, 0), x.curtain(hour, 0), x.clear(hour, 0), x.days(hour, 0, 0), x.best(hour, 0),
                    x.say(hour, 0, 0), x.murmur(0, 1, hour), x.from(0, hour), x.where(1, hour, 0));
        }
        for (int hour = 0; hour < 12; hour += 11) {
            HallAnswers y = Check.hall("bench 0 0 0 1 turned;bench 5 5 0 1;");
            long[] taken = {y.bench(0, hour, 0), y.way(0, hour, 0), y.steps(0, hour), y.heard(0, hour),
                y.can(0, 1, hour), y.broken(hour), y.seating(hour, 0), y.days(hour, 0, 0), y.best(hour, 0),
                y.from(0, hour), y.where(1, hour, 0), y.murmur(0, 1, hour), y.say(hour, 0, 0)};
            for (int i = 0; i < taken.length; i++) {
                Check.due("HOUR " + hour + " is taken (number " + i + ")", taken[i] >= 0 ? 1 : 0, 1);
            }
            Check.allDue("HOUR " + hour + " is taken: none", Check.NONE, y.curtain(hour, 0), y.clear(hour, 0),
                    y.answer(0, hour), y.hears(1, 0, hour, 0));
        }
    }

    private static void turned() {
        Check.about("Terms", "1 turned: in HOUR h its FACING is h more, modulo 8");
        HallAnswers x = Check.hall("hall 3 3;bench 2 1 0 1turned;bench 2 1 7 1turned;bench 2 1 4 1;");
        for (int hour = 0; hour < 12; hour++) {
            Check.due("from 0 in HOUR " + hour, x.bench(0, hour, 1), hour % 8);
            Check.due("from 7 in HOUR " + hour, x.bench(1, hour, 1), (hour + 7) % 8);
            Check.due("plain in HOUR " + hour, x.bench(2, hour, 1), 4);
            Check.due("it does not move", x.bench(1, hour, 0), 11);
        }
    }

    private static void moving() {
        Check.about("Terms", "2 moving: turned, and its x is h more, modulo wide");
        HallAnswers x = Check.hall("hall 3 3;bench 2 1 7 1moving;bench 0 2 0 1moving;");
        int[] of2 = {11, 9, 10, 11, 9, 10, 11, 9, 10, 11, 9, 10};
        int[] of0 = {18, 19, 20, 18, 19, 20, 18, 19, 20, 18, 19, 20};
        for (int hour = 0; hour < 12; hour++) {
            Check.due("from x 2 in HOUR " + hour, x.bench(0, hour, 0), of2[hour]);
            Check.due("from x 0 in HOUR " + hour, x.bench(1, hour, 0), of0[hour]);
            Check.due("turned, too, in HOUR " + hour, x.bench(0, hour, 1), (hour + 7) % 8);
        }
        HallAnswers y = Check.hall("hall 9 3;bench 8 0 0 1moving;bench 0 0 0 1moving;");
        Check.eachDue("the widest", Check.row(8, 0, 7, 8, 0, 1), y.bench(0, 0, 0), y.bench(0, 1, 0), y.bench(0, 8, 0),
                y.bench(1, 8, 0), y.bench(1, 9, 0), y.bench(1, 10, 0));
    }

    private static void raised() {
        Check.about("Terms", "3 raised: WHISPERS from it are not swallowed by CURTAINS");
        for (int kind = 0; kind < 5; kind++) {
            String name = new String[]{"plain", "turned", "moving", "raised", "listening"}[kind];
            HallAnswers x = Check.hall("bench 0 0 2 1" + name + ";curtain 1 0;curtain 2 0;pillar 4 0;");
            Check.due(name, x.steps(0, 0), kind == 3 ? 3 : 0);
            Check.due(name + ": its FACING and x stay", x.bench(0, 5, 0), kind == 2 ? 5 : 0);
        }
        HallAnswers x = Check.hall("bench 0 0 2 1;bench 2 0 6 1raised;curtain 1 0;");
        Check.eachDue("from it, not to it", Check.row(Check.NONE, 2), x.hears(0, 1, 0, 1), x.hears(1, 0, 0, 1));
    }

    private static void listening() {
        Check.about("Terms", "4 listening: its EAR is half of it, divided down (1 at least)");
        int[] ears = {1, 2, 3, 4, 5, 98, 99, 100};
        int[] halves = {1, 1, 1, 2, 2, 49, 49, 50};
        for (int i = 0; i < ears.length; i++) {
            HallAnswers x = Check.hall("bench 0 0 0 " + ears[i] + "listening;bench 0 0 0 " + ears[i] + ";");
            Check.due("EAR " + ears[i], x.bench(0, 0, 2), halves[i]);
            Check.due("in another HOUR", x.bench(0, 11, 2), halves[i]);
            Check.due("plain EAR " + ears[i], x.bench(1, 0, 2), ears[i]);
        }
        HallAnswers x = Check.hall("fade 1;bench 0 0 2 1;bench 1 0 0 100;bench 1 0 0 100listening;");
        Check.eachDue("it HEARS by the half", Check.row(Check.NONE, 99), x.hears(0, 1, 0, 0), x.hears(0, 2, 0, 0));
    }

    private static void peopleCounts() {
        Check.about("Terms", "PEOPLE (0 to 6, no more than BENCHES; as many as BENCHES, 6 at most, at first)");
        String bench = "bench 0 0 0 1;";
        for (int n = 0; n <= 8; n++) {
            Check.due("at first of " + n + " BENCHES", Check.hall(bench.repeat(n)).count(1), Math.min(n, 6));
            for (int people = 0; people <= 6; people++) {
                String text = bench.repeat(n) + "people " + people + ";";
                if (people <= n) {
                    Check.due(people + " of " + n + " BENCHES", Check.hall(text).count(1), people);
                } else {
                    Check.dueFault(text, 6, text.length());
                }
            }
        }
        Check.dueFault(bench.repeat(8) + "people 7;", 3, 119);
    }

    private static void peopleSit() {
        Check.about("Terms", "he sits on a BENCH (ONE p on BENCH p at first), alone");
        HallAnswers x = Check.hall("bench 0 0 0 1;".repeat(8));
        for (int b = 0; b < 8; b++) {
            Check.due("who sits on BENCH " + b, x.bench(b, 0, 4), b < 6 ? b : Check.NONE);
        }
        for (int p = 0; p < 6; p++) {
            x.sit(p, 7);
            int sitting = 0;
            for (int b = 0; b < 8; b++) {
                sitting += x.bench(b, 0, 4) == Check.NONE ? 0 : 1;
            }
            Check.due("six BENCHES have one", sitting, 6);
        }
    }

    private static void wantsAtMost() {
        Check.about("Terms", "WANTS (8): a ONE, another one, JOINED (the second one hears the first one) or BARRED (he does not).");
        String benches = "bench 0 0 2 1;bench 1 0 6 99;";
        for (int n = 0; n <= 8; n++) {
            HallAnswers x = Check.hall(benches + "join 1 0;bar 0 1;".repeat(n / 2) + (n % 2 == 1 ? "join 1 0;" : ""));
            Check.due("WANTS", x.count(3), n);
            for (int i = 0; i < n; i++) {
                Check.eachDue("WANT " + i, i % 2 == 0 ? Check.row(1, 0, 1) : Check.row(0, 1, 0), x.want(i, 0), x.want(i, 1), x.want(i, 2));
            }
            Check.due("behind the last", x.want(n, 0), Check.BAD);
        }
        Check.dueFault(benches + "join 0 1;".repeat(8) + "join 0 1;", 5, 101);
        Check.dueFault(benches + "bar 0 1;".repeat(8) + "join 0 1;", 5, 93);
        Check.dueFault(benches + "bar 0 1;".repeat(8) + "bar 0 1;", 5, 93);
        HallAnswers x = Check.hall("fade 1;" + benches + "join 0 1;bar 0 1;join 1 0;bar 1 0;");
        Check.due("which of them are so", x.broken(0), 2 + 8);
        HallAnswers y = Check.hall("fade 2;" + benches + "join 0 1;bar 0 1;join 1 0;bar 1 0;");
        Check.due("who hears is the second one", y.broken(0), 1 + 8);
    }

    private static void secrets() {
        Check.about("Terms", "SECRETS 0 to 7.");
        HallAnswers x = Check.hall("bench 0 0 0 1;whisper 0 0 0;whisper 0 0 7;");
        Check.eachDue("told", Check.row(0, 7, 129), x.said(0, 2), x.said(1, 2), x.knows(0, 2));
        Check.dueFault("bench 0 0 0 1;whisper 0 0 8;", 3, 26);
        Check.eachDue("said, asked", Check.row(3, 4, Check.BAD, Check.BAD, 0, 1, Check.BAD, Check.BAD), x.say(0, 0, 0),
                x.say(0, 0, 7), x.say(0, 0, -1), x.say(0, 0, 8), x.since(0, 0), x.since(0, 7), x.since(0, -1), x.since(0, 8));
        Check.eachDue("let out", Check.row(0, 1, Check.BAD, Check.BAD), x.leak(0, 0, 0), x.leak(7, 0, 0), x.leak(-1, 0, 0),
                x.leak(8, 0, 0));
    }
}
