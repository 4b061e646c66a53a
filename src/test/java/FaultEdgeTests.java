import java.util.List;

/** Each of the seven FAULTS wherever it may be met, its place, and which of several is the first (Terms). */
public final class FaultEdgeTests {
    private static final String BENCH = "bench 0 0 0 1;";

    /** Every line's form, TOKEN by TOKEN; a K may stand ahead of a bench's sign. */
    private static final String[][] LINES = {{"hall", "5", "4", ";"}, {"fade", "1", ";"}, {"bounce", "1", ";"},
        {"warm", "1", ";"}, {"people", "0", ";"}, {"bench", "1", "2", "3", "4", ";"},
        {"bench", "1", "2", "3", "4", "raised", ";"}, {"pillar", "1", "2", ";"}, {"curtain", "1", "2", ";"},
        {"join", "0", "1", ";"}, {"bar", "1", "0", ";"}, {"whisper", "0", "1", "2", ";"}};

    /** Every NUMBER of every line: what stands ahead of it, the least, the most, what stands behind it. */
    private static final String[][] NUMBERS = {{"hall ", "3", "9", " 9;"}, {"hall 9 ", "3", "9", ";"},
        {"fade ", "0", "20", ";"}, {"bounce ", "0", "50", ";"}, {"warm ", "0", "9", ";"}, {"people ", "0", "6", ";"},
        {"bench ", "0", "8", " 0 0 1;"}, {"bench 0 ", "0", "8", " 0 1;"}, {"bench 0 0 ", "0", "7", " 1;"},
        {"bench 0 0 0 ", "1", "100", ";"}, {"pillar ", "0", "8", " 1;"}, {"pillar 1 ", "0", "8", ";"},
        {"curtain ", "0", "8", " 1;"}, {"curtain 1 ", "0", "8", ";"}, {"join ", "0", "5", " 1;"},
        {"join 1 ", "0", "5", ";"}, {"bar ", "0", "5", " 1;"}, {"bar 1 ", "0", "5", ";"},
        {"whisper ", "0", "11", " 0 0;"}, {"whisper 0 ", "0", "5", " 0;"}, {"whisper 0 0 ", "0", "7", ";"}};

    public static void main(String[] args) {
        noToken();
        tooLongNumber();
        lineBegins();
        tokensThatCanNotStandThere();
        theEnd();
        outOfBounds();
        secondTime();
        deafAlready();
        aOneAndHimself();
        tooMany();
        cellsThatThereAreNot();
        onesThatThereAreNot();
        benchesOnDeafCells();
        theFirstMet();
        behindAll();
        Check.finish("FaultEdgeTests");
    }

    private static void noToken() {
        Check.about("Terms", "1 no TOKEN");
        for (String[] line : LINES) {
            StringBuilder text = new StringBuilder(BENCH);
            for (String token : line) {
                Check.dueFault(text + "?", 1, text.length());
                Check.dueFault(text + " A", 1, text.length() + 1);
                text.append(token).append(' ');
            }
            Check.dueFault(text + "\u00ff", 1, text.length());
        }
    }

    private static void tooLongNumber() {
        Check.about("Terms", "a NUMBER that is too long (its first byte)");
        for (String[] line : LINES) {
            StringBuilder text = new StringBuilder();
            for (String token : line) {
                Check.dueFault(text + "1000", 1, text.length());
                Check.dueFault(text + "0000;", 1, text.length());
                Check.dueFault(text + "99999999999999999999 ?", 1, text.length());
                text.append(token).append(' ');
            }
        }
        Check.dueFault("fade1000;", 1, 4);
        Check.dueTaken("fade 001;", 1);
    }

    private static void lineBegins() {
        Check.about("Terms", "2 a TOKEN that can not stand there (a NAME that begins no line, is no K; or the end: the length)");
        for (String name : new String[]{"z", "a", "hal", "halls", "hill", "halt", "plain", "raised", "text", "whispe",
            "whispers", "peoples", "ba", "barn", "joi", "joints"}) {
            Check.dueFault(name + " 3 3;", 2, 0);
            Check.dueFault(BENCH + " " + name, 2, BENCH.length() + 1);
        }
        Check.dueFault("3;", 2, 0);
        Check.dueFault(BENCH + ";", 2, BENCH.length());
        Check.dueFault(BENCH + "3", 2, BENCH.length());
    }

    /** For each place of each line: the TOKENS of the kinds that are not due there. */
    private static void tokensThatCanNotStandThere() {
        for (String[] line : LINES) {
            StringBuilder text = new StringBuilder(line[0]).append(' ');
            for (int i = 1; i < line.length; i++) {
                boolean numberIsDue = Character.isDigit(line[i].charAt(0));
                Check.dueFault(text + "name", 2, text.length());
                Check.dueFault(text + (numberIsDue ? ";" : "7"), 2, text.length());
                boolean kindIsDue = line[0].equals("bench") && i == 5;
                if (!kindIsDue) {
                    Check.dueFault(text + "plain", 2, text.length());
                    Check.dueFault(text + "hall", 2, text.length());
                }
                text.append(line[i]).append(' ');
            }
        }
        Check.dueFault("bench 1 1 1 1 hall;", 2, 14);
        Check.dueFault("bench 1 1 1 1 plain turned;", 2, 20);
        Check.dueFault("bench 1 1 1 1 plain 5;", 2, 20);
    }

    private static void theEnd() {
        for (String[] line : LINES) {
            String text = "";
            for (int i = 0; i < line.length - 1; i++) {
                text += (i == 0 ? "" : " ") + line[i];
                Check.dueFault(text, 2, text.length());
                Check.dueFault(text + "   ", 2, text.length() + 3);
                Check.dueFault(BENCH + text, 2, BENCH.length() + text.length());
            }
        }
    }

    private static void outOfBounds() {
        Check.about("Terms", "3 a NUMBER out of its bounds.");
        numbersOf("hall", "fade", "bounce", "warm", "people");
        Check.about("Terms", "hall: wide, high. bench: x, y (0 to 8), FACING, EAR. pillar, curtain: x, y. join, bar: two PEOPLE (0 to 5). "
                + "whisper: HOUR (no less than that of the one ahead), a ONE, a SECRET.");
        numbersOf("bench", "pillar", "curtain", "join", "bar", "whisper");
    }

    private static void numbersOf(String... names) {
        for (String[] number : NUMBERS) {
            if (!List.of(names).contains(number[0].substring(0, number[0].indexOf(' ')))) {
                continue;
            }
            int least = Integer.parseInt(number[1]);
            int most = Integer.parseInt(number[2]);
            int place = number[0].length();
            Check.dueFault(number[0] + (most + 1) + number[3], 3, place);
            Check.dueFault(number[0] + "999" + number[3], 3, place);
            if (least > 0) {
                Check.dueFault(number[0] + (least - 1) + number[3], 3, place);
            }
            dueInBounds(number[0] + least + number[3]);
            dueInBounds(number[0] + most + number[3]);
        }
    }

    /** Taken, or refused for what is found behind all alone. */
    private static void dueInBounds(String text) {
        HallAnswers x = new HallAnswers();
        int answer = Check.tell(x, text);
        boolean fits = answer == 1 || x.fault() == 6 && answer == -10 - text.length();
        Check.due("in bounds: " + text, fits ? 1 : 0, 1);
    }

    private static void secondTime() {
        Check.about("Terms", "4 hall, fade, bounce, warm, people for the second time (its NAME)");
        for (int i = 0; i < 5; i++) {
            String line = String.join(" ", LINES[i]);
            Check.dueFault(line + line, 4, line.length());
            Check.dueFault(line + BENCH + "  " + line, 4, line.length() + BENCH.length() + 2);
            Check.dueFault(line + LINES[i][0], 4, line.length());
            Check.dueFault(line + LINES[i][0] + "?", 4, line.length());
            for (int j = 0; j < 5; j++) {
                if (j != i) {
                    Check.dueTaken(line + String.join(" ", LINES[j]), 2);
                }
            }
            HallAnswers x = Check.hall(line);
            Check.due("a second text may tell it: " + line, Check.tell(x, line), 1);
        }
    }

    private static void deafAlready() {
        Check.about("Terms", "a CELL that is DEAF already (its y)");
        String[] names = {"pillar", "curtain"};
        for (String first : names) {
            for (String second : names) {
                String line = first + " 1 2;" + second + " 1 ";
                Check.dueFault(line + "2;", 4, line.length());
                Check.dueFault(line + "002?", 4, line.length());
                Check.dueTaken(line + "1;", 2);
                Check.dueTaken(first + " 1 2;" + second + " 2 1;", 2);
                Check.dueTaken(first + " 1 2;" + second + " 2 2;", 2);
                line = first + " 8 8;" + second + " 8 ";
                Check.dueFault(line + "8;", 4, line.length());
                line = first + " 0 0;" + BENCH + second + " 0 ";
                Check.dueFault(line + "0;", 4, line.length());
            }
        }
        HallAnswers x = Check.hall("pillar 1 2;");
        Check.due("by the text ahead of it", Check.tell(x, "pillar 1 2;"), 1);
        x.hang(0, 1);
        Check.due("by hang()", Check.tell(x, "pillar 0 0;"), 1);
    }

    private static void aOneAndHimself() {
        Check.about("Terms", "a ONE and himself (the second one)");
        for (int p = 0; p < 6; p++) {
            for (int q = 0; q < 6; q++) {
                for (String name : new String[]{"join ", "bar "}) {
                    String line = BENCH.repeat(6) + name + p + " ";
                    if (p == q) {
                        Check.dueFault(line + q + ";", 4, line.length());
                        Check.dueFault(line + q + "?", 4, line.length());
                    } else {
                        Check.dueTaken(line + q + ";", 7);
                    }
                }
            }
        }
    }

    private static void tooMany() {
        Check.about("Terms", "5 the 9th bench, the 9th join or bar, the 13th whisper (its NAME).");
        Check.dueTaken(BENCH.repeat(8), 8);
        dueTooMany(BENCH.repeat(8), "bench");
        String two = BENCH.repeat(2);
        for (int joins = 0; joins <= 8; joins++) {
            String text = two + "join 0 1;".repeat(joins) + "bar 1 0;".repeat(8 - joins);
            Check.dueTaken(text, 10);
            dueTooMany(text, "join");
            dueTooMany(text, "bar");
        }
        Check.dueTaken(BENCH + "whisper 0 0 0;".repeat(12), 13);
        dueTooMany(BENCH + "whisper 0 0 0;".repeat(12), "whisper");
        Check.dueTaken("pillar0 0;pillar0 1;pillar0 2;pillar0 3;curtain1 0;curtain1 1;curtain1 2;curtain1 3;curtain2 0;pillar3 0;", 10);
    }

    private static void dueTooMany(String text, String name) {
        for (String behind : new String[]{"", "?", " 999", ";", " name"}) {
            if (!behind.equals(" name") || text.length() < 300) {
                Check.dueFault(text + name + behind, 5, text.length());
            }
        }
        Check.dueFault(text + "  " + name, 5, text.length() + 2);
    }

    private static void cellsThatThereAreNot() {
        Check.about("Terms", "Behind all (the length): 6 a CELL that there is not");
        String hall = "hall 4 5;";
        for (String name : new String[]{"pillar ", "curtain "}) {
            dueMissing(hall + name + "4 0;");
            dueMissing(hall + name + "0 5;");
            dueMissing(name + "8 8;" + hall);
            dueMissing(hall + name + "3 5;");
            dueMissing(hall + name + "4 4;");
            Check.dueTaken(hall + name + "3 4;", 2);
            Check.dueTaken(name + "3 4;" + hall, 2);
            dueMissing(name + "0 7;");
            Check.dueTaken(name + "8 6;", 1);
        }
        dueMissing(hall + "bench 4 0 0 1;");
        dueMissing(hall + "bench 0 5 0 1;");
        dueMissing("bench 8 4 0 1;" + hall);
        dueMissing(hall + BENCH.repeat(7) + "bench 4 4 0 1;");
        Check.dueTaken(hall + "bench 3 4 0 1 moving;", 2);
        dueMissing("bench 0 7 0 1;");
        Check.dueTaken("bench 8 6 0 1;", 1);
        dueMissing("bench 0 7 0 1;   ");
    }

    private static void onesThatThereAreNot() {
        Check.about("Terms", "a ONE that there is not, more PEOPLE than BENCHES");
        for (int people = 0; people <= 5; people++) {
            String made = BENCH.repeat(6) + "people " + people + ";";
            for (String name : new String[]{"join ", "bar "}) {
                dueMissing(made + name + people + " " + (people + 1) % 6 + ";");
                dueMissing(made + name + (people + 1) % 6 + " " + people + ";");
                if (people > 1) {
                    Check.dueTaken(made + name + (people - 1) + " 0;", 8);
                    Check.dueTaken(made + name + "0 " + (people - 1) + ";", 8);
                    dueMissing(made + name + "0 " + people + ";");
                    dueMissing(made + name + people + " 0;");
                    dueMissing(name + people + " 0;" + made);
                    dueMissing(made + name + "0 1;" + name + people + " 0;");
                }
            }
            dueMissing(made + "whisper 0 " + people + " 0;");
            dueMissing("whisper 0 " + people + " 0;" + made);
            if (people > 0) {
                Check.dueTaken(made + "whisper 0 " + (people - 1) + " 0;", 8);
                dueMissing(made + "whisper 0 0 0;whisper 0 " + people + " 0;");
            }
        }
        for (int benches = 0; benches <= 5; benches++) {
            dueMissing(BENCH.repeat(benches) + "people " + (benches + 1) + ";");
            dueMissing("people 6;" + BENCH.repeat(benches));
            Check.dueTaken("people " + benches + ";" + BENCH.repeat(benches), benches + 1);
            dueMissing(BENCH.repeat(benches) + "whisper 0 " + benches + " 0;");
        }
        Check.dueTaken(BENCH.repeat(8) + "whisper 0 5 0;join 5 0;bar 0 5;", 11);
    }

    private static void dueMissing(String text) {
        Check.dueFault(text, 6, text.length());
    }

    private static void benchesOnDeafCells() {
        Check.about("Terms", "7 a BENCH on a DEAF CELL.");
        for (String name : new String[]{"pillar ", "curtain "}) {
            for (String cell : new String[]{"0 0", "8 0", "0 6", "8 6", "4 3"}) {
                for (String kind : new String[]{"", "moving", "raised"}) {
                    String deaf = name + cell + ";";
                    String bench = "bench " + cell + " 0 1" + kind + ";";
                    Check.dueFault(deaf + bench, 7, deaf.length() + bench.length());
                    Check.dueFault(bench + deaf, 7, deaf.length() + bench.length());
                    Check.dueFault(deaf + bench + "  ", 7, deaf.length() + bench.length() + 2);
                    Check.dueFault("bench 1 0 0 1;".repeat(7) + bench + deaf, 7, 98 + deaf.length() + bench.length());
                }
            }
        }
        Check.dueTaken("bench 0 0 2 1 moving;pillar 1 0;curtain 0 1;", 3);
    }

    private static void theFirstMet() {
        Check.about("Terms", "FAULTS, the first met as it is read (a TOKEN is read when the one before has been taken)");
        Check.dueFault("fade 21?", 3, 5);
        Check.dueFault("fade 20?", 1, 7);
        Check.dueFault("fade 21;?", 3, 5);
        Check.dueFault("fade ?21", 1, 5);
        Check.dueFault("fade 1000;fade 21;", 1, 5);
        Check.dueFault("name?", 2, 0);
        Check.dueFault("7?", 2, 0);
        Check.dueFault(";?", 2, 0);
        Check.dueFault("hall 10 99;", 3, 5);
        Check.dueFault("hall 9 10 ?", 3, 7);
        Check.dueFault("join 6 6;", 3, 5);
        Check.dueFault("join 5 6;", 3, 7);
        Check.dueFault("join 5 5?", 4, 7);
        Check.dueFault("join 5 5;people 0;", 4, 7);
        Check.dueFault("pillar 1 1;pillar 1 9;", 3, 20);
        Check.dueFault("pillar 1 1;pillar 9 1;", 3, 18);
        Check.dueFault("pillar 1 1;pillar 1 1?", 4, 20);
        Check.dueFault("bench 0 0 0 101 name", 3, 12);
        Check.dueFault("bench 0 0 0 100 name ?", 2, 16);
        Check.dueFault("bench 0 0 0 100 raised ?", 1, 23);
        Check.dueFault("bench 0 0 0 plain;", 2, 12);
        Check.dueFault("whisper 12 6 8;", 3, 8);
        Check.dueFault("whisper 11 6 8;", 3, 11);
        Check.dueFault("whisper 11 5 8;", 3, 13);
        Check.dueFault("fade 1;fade 21;", 4, 7);
        Check.dueFault(BENCH.repeat(8) + "bench 9 9 9 999", 5, 112);
        Check.dueFault("fade 21", 3, 5);
        Check.dueFault("fade 20", 2, 7);
    }

    private static void behindAll() {
        Check.about("Terms", "Behind all (the length): 6 a CELL that there is not; a ONE that there is not, more PEOPLE than BENCHES; "
                + "7 a BENCH on a DEAF CELL.");
        Check.dueFault("pillar 0 8;people 3;fade", 2, 24);
        Check.dueFault("pillar 0 8;people 3;fade 21;", 3, 25);
        Check.dueFault(BENCH + "pillar 0 0;?", 1, 25);
        Check.dueFault(BENCH + "pillar 0 0;people 2;", 6, 34);
        Check.dueFault(BENCH + "pillar 0 0;pillar 0 7;", 6, 36);
        Check.dueFault(BENCH + "pillar 0 0;whisper 0 1 0;", 6, 39);
        Check.dueFault("bench 0 8 0 1;pillar 0 8;", 6, 25);
        Check.dueFault("people 0;" + BENCH + "pillar 0 0;", 7, 34);
    }
}
