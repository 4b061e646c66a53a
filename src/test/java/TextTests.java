/** Promises 1 to 9: a new object, THE TAPE, the text and what it tells. */
public final class TextTests {
    public static void main(String[] args) {
        newObject();
        feedAndEnd();
        textTells();
        textIsAsAtFirstElse();
        textLeavesSheetsAndDropsImages();
        tokens();
        noTokens();
        misplacedTokens();
        numbersOutOfBounds();
        secondTimes();
        tooMany();
        behindAll();
        whichFaultIsFirst();
        faultsLeaveAll();
        ruleAndCell();
        bench();
        want();
        Check.finish("TextTests");
    }

    private static void newObject() {
        HallAnswers x = new HallAnswers();
        int[] rules = {9, 7, 3, 5, 0};
        for (int i = 0; i < rules.length; i++) {
            Check.due("new rule " + i, x.rule(i), rules[i]);
        }
        for (int what = 0; what < 7; what++) {
            Check.due("new count " + what, x.count(what), 0);
        }
        Check.due("new count 7", x.count(7), Check.NONE);
        for (int k = 0; k < 4; k++) {
            Check.due("new sheet " + k, x.lay(k, 0, 1), -11);
        }
        Check.allDue("new", 0, x.fault(), x.torn(), x.cell(0), x.cell(62), x.warm(0));
        Check.allDue("new", Check.BAD, x.bench(0, 0, 0), x.want(0, 0), x.cell(63), x.said(0, 0), x.knows(0, 0));
        Check.allDue("new", Check.STATE, x.back(0), x.back(1), x.murmur(1, 1, 0));
        Check.due("new hours", x.hours(), 4095);
        Check.due("new seating", x.seating(0, 0), 0);
        Check.due("new seatings", x.seating(0, 1), 1);
        Check.due("new seating of ONE 0", x.seating(0, 10), Check.BAD);
    }

    private static void feedAndEnd() {
        HallAnswers x = new HallAnswers();
        Check.due("end of nothing", x.end(0), 0);
        Check.allDue("end", Check.BAD, x.end(1), x.end(-1), x.end(Integer.MIN_VALUE));
        for (int i = 1; i <= 40; i++) {
            Check.due("feed " + i, x.feed(0x2020202020202020L), 8 * i);
        }
        Check.due("feed 41", x.feed(0), Check.FULL);
        Check.due("bytes", x.count(6), 320);
        Check.due("end above", x.end(321), Check.BAD);
        Check.due("end of 320", x.end(313), 320);
        Check.due("feed above 320", x.feed(0), Check.FULL);
        Check.due("full leaves", x.end(312), 313);
        Check.due("feed to 320", x.feed(0x2020202020202020L), 320);
        Check.due("blanks alone", x.text(), 0);
        Check.due("empty then", x.count(6), 0);
        // the highest byte comes first: "fade 7;" and a byte that is cut off
        x.feed(0x66616465_20373bffL);
        Check.due("end(7)", x.end(7), 8);
        Check.due("fade 7;", x.text(), 1);
        Check.due("fade", x.rule(2), 7);
        Check.due("a byte above 127 is no TOKEN", feedByte(0xff), -10);
        Check.due("nor is the byte 0", feedByte(0), -10);
    }

    private static int feedByte(int b) {
        HallAnswers x = new HallAnswers();
        x.feed((long) b << 56);
        x.end(1);
        return x.text();
    }

    private static void textTells() {
        HallAnswers x = new HallAnswers();
        Check.due("lines", Check.tell(x, "hall 8 6;fade 1;bounce 2;warm 4;people 2;bench 1 2 3 40;"
                + "bench 7 5 7 100 moving;bench 0 0 0 1 raised;pillar 3 3;curtain 4 4;join 0 1;bar 1 0;whisper 11 1 7;"), 13);
        int[] rules = {8, 6, 1, 2, 4};
        for (int i = 0; i < rules.length; i++) {
            Check.due("rule " + i, x.rule(i), rules[i]);
        }
        int[] counts = {3, 2, 2, 2, 1, 0, 0};
        for (int i = 0; i < counts.length; i++) {
            Check.due("count " + i, x.count(i), counts[i]);
        }
        Check.due("pillar", x.cell(30), 1);
        Check.due("curtain", x.cell(40), 2);
        Check.due("said hour", x.said(0, 0), 11);
        Check.due("said one", x.said(0, 1), 1);
        Check.due("said secret", x.said(0, 2), 7);
        Check.due("fault", x.fault(), 0);
        Check.due("an empty text", Check.tell(x, ""), 0);
        Check.allDue("tells nothing", 0, x.count(0), x.count(1), x.count(2), x.count(3), x.count(4), x.cell(30));
    }

    private static void textIsAsAtFirstElse() {
        HallAnswers x = Check.hall("hall 3 4;fade 0;warm 9;bench 0 0 0 1;bench 1 0 0 1;pillar 2 2;whisper 1 0 0;");
        x.warm(3);
        x.sit(0, 1);
        Check.due("another text", Check.tell(x, "bench 8 6 0 1;bench 7 6 0 1;"), 2);
        int[] rules = {9, 7, 3, 5, 0};
        for (int i = 0; i < rules.length; i++) {
            Check.due("as at first, rule " + i, x.rule(i), rules[i]);
        }
        Check.allDue("as at first", 0, x.count(2), x.count(4), x.bench(0, 0, 4), x.fault());
        Check.due("ONE 1 on BENCH 1", x.bench(1, 0, 4), 1);
        String eight = "";
        for (int b = 0; b < 8; b++) {
            eight += "bench " + b + " 0 0 1;";
        }
        Check.due("eight benches", Check.tell(x, eight), 8);
        Check.due("six people", x.count(1), 6);
        Check.due("ONE 5", Check.tell(x, eight + "whisper 0 5 0;join 5 0;join 0 5;"), 11);
        Check.due("ONE 5", x.said(0, 1), 5);
        Check.due("people 0", Check.tell(x, "people 0;" + eight), 9);
        Check.due("no people", x.count(1), 0);
        Check.due("people 6 ahead of the benches", Check.tell(x, "people 6;" + eight), 9);
    }

    private static void textLeavesSheetsAndDropsImages() {
        HallAnswers x = new HallAnswers();
        x.sheet(0, 2, 5);
        x.keep(0);
        x.keep(1);
        Check.due("a FAULT", Check.tell(x, "?"), -10);
        Check.due("leaves images", x.count(5), 2);
        Check.due("a text", Check.tell(x, "fade 1;"), 1);
        Check.allDue("drops images", 0, x.count(5), x.keep(1));
        Check.due("drops image 0", x.back(0), Check.STATE);
        Check.due("leaves sheets", x.count(7), 5);
    }

    private static void tokens() {
        HallAnswers x = new HallAnswers();
        Check.due("as many blanks as wanted", Check.tell(x, "   hall   3    003  ;  fade 00;   "), 2);
        Check.due("leading zeros", x.rule(1), 3);
        Check.due("no blanks but where needed", Check.tell(x, "fade5;bench1 2 3 4raised;bounce050;"), 3);
        Check.due("kind", x.bench(0, 0, 3), 3);
        Check.due("a NAME is as long as may be", fault(x, "fade 1;halls 3 3;"), 200 + 7);
        Check.due("a short NAME", fault(x, "hal 3 3;"), 200);
    }

    /** The text's FAULT, a hundred each, and its place; -1 if it is taken. */
    private static int fault(HallAnswers x, String text) {
        int answer = Check.tell(x, text);
        if (answer >= 0 || x.fault() == 0) {
            return -1;
        }
        return 100 * x.fault() - 10 - answer;
    }

    private static void due(String text, int want) {
        Check.due(text, fault(new HallAnswers(), text), want);
    }

    private static void noTokens() {
        due(".", 100);
        due("fade 1.", 106);
        due("fade 1;Fade", 107);
        due("fade\t1;", 104);
        due("fade 1;\n", 107);
        due("fade 0001;", 105);
        due("fade 1000;", 105);
        due("0001", 100);
        due("  -", 102);
        due("fade 00000000000000000000000000;", 105);
        due("bench 1 1 1 1 1234", 114);
        due("fade 1;`", 107);
        due("fade 1;{", 107);
        due("fade 1:", 106);
        due("fade 1/", 106);
    }

    private static void misplacedTokens() {
        due(";", 200);
        due("7;", 200);
        due("benches", 200);
        due("xade 1;", 200);
        due("fadx 1;", 200);
        due("fade 1;z", 207);
        due("fade 1;a", 207);
        due("plain", 200);
        due("fade", 204);
        due("fade  ", 206);
        due("fade;", 204);
        due("fade fade", 205);
        due("fade 1", 206);
        due("fade 1 2;", 207);
        due("fade 1 bounce 2;", 207);
        due("fade 1;;", 207);
        due("hall 3;", 206);
        due("hall 3 3 3;", 209);
        due("people x;", 207);
        due("bench 1 1 1 1 1;", 214);
        due("bench 1 1 1 1 hall;", 214);
        due("bench 1 1 1 1 plain", 219);
        due("bench 1 1 1 1 plain raised;", 220);
        due("bench 1 1 1 1 plain 1;", 220);
        due("bench 1 1 1 1", 213);
        due("bench 1 1 1;", 211);
        due("pillar 1;", 208);
        due("pillar 1 1 1;", 211);
        due("curtain 1 plain;", 210);
        due("join 1;", 206);
        due("bar 0 1 2;", 208);
        due("whisper 1 1;", 211);
        due("whisper 1 1 1 1;", 214);
        due("whisper 1 1 1", 213);
    }

    private static void numbersOutOfBounds() {
        due("hall 2 5;", 305);
        due("hall 10 5;", 305);
        due("hall 5 2;", 307);
        due("hall 5 10;", 307);
        due("fade 21;", 305);
        due("bounce 51;", 307);
        due("warm 10;", 305);
        due("people 7;", 307);
        due("bench 9 0 0 1;", 306);
        due("bench 0 9 0 1;", 308);
        due("bench 0 0 8 1;", 310);
        due("bench 0 0 0 0;", 312);
        due("bench 0 0 0 101;", 312);
        due("pillar 9 0;", 307);
        due("pillar 0 9;", 309);
        due("curtain 9 0;", 308);
        due("curtain 0 9;", 310);
        due("join 6 0;", 305);
        due("join 0 6;", 307);
        due("bar 6 0;", 304);
        due("bar 0 6;", 306);
        due("whisper 12 0 0;", 308);
        due("whisper 0 6 0;", 310);
        due("whisper 0 0 8;", 312);
        due("bench 0 0 0 1;whisper 3 0 0;whisper 2 0 0;", 336);
        Check.due("the greatest", fault(new HallAnswers(), "hall 9 9;fade 20;bounce 50;warm 9;people 1;bench 8 8 7 100;"
                + "pillar 7 8;curtain 8 7;whisper 11 0 7;whisper 11 0 7;"), -1);
        Check.due("the least", fault(new HallAnswers(), "hall 3 3;fade 0;bounce 0;warm 0;people 0;bench 0 0 0 1;"
                + "pillar 1 0;curtain 0 1;"), -1);
    }

    private static void secondTimes() {
        due("hall 3 3;hall 3 3;", 409);
        due("fade 1;fade 1;", 407);
        due("bounce 1;bounce 1;", 409);
        due("warm 0;warm 0;", 407);
        due("people 0; people 0;", 410);
        due("fade 1;bounce 1;fade", 416);
        due("pillar 1 2;pillar 1 2;", 420);
        due("pillar 1 2;curtain 1  2;", 422);
        due("curtain 8 8;pillar 8 8;", 421);
        due("join 0 0;", 407);
        due("bar 5 5;", 406);
        Check.due("another CELL", fault(new HallAnswers(), "pillar 1 2;pillar 2 1;"), -1);
        Check.due("the same WANT", fault(new HallAnswers(), "bench 1 1 1 1;bench 1 1 1 1;join 0 1;join 0 1;bar 0 1;"), -1);
    }

    private static void tooMany() {
        String bench = "bench 0 0 0 1;";
        due(bench.repeat(9), 500 + 112);
        due(bench.repeat(8) + "bench ?", 500 + 112);
        due(bench.repeat(2) + "join 0 1;".repeat(4) + "bar 0 1;".repeat(4) + " join 0 1;", 500 + 28 + 36 + 32 + 1);
        due(bench.repeat(2) + "join 0 1;".repeat(4) + "bar 0 1;".repeat(4) + "bar 7", 500 + 28 + 36 + 32);
        due(bench + "whisper 0 0 0;".repeat(13), 500 + 13 * 14);
        Check.due("as many as may be", fault(new HallAnswers(), bench.repeat(2) + "whisper 0 0 0;".repeat(12)
                + "bar 0 1;".repeat(8)), -1);
        Check.due("eight benches", fault(new HallAnswers(), bench.repeat(8)), -1);
    }

    private static void behindAll() {
        due("bench 0 7 0 1;", 614);
        due("hall 3 9;bench 3 0 0 1;", 623);
        due("bench 2 2 0 1;hall 3 3;bench 2 3 0 1; ", 638);
        due("pillar 0 7;", 611);
        due("curtain 3 3;hall 3 3;", 621);
        due("curtain 3 2;hall 3 3;", 621);
        due("people 1;", 609);
        due("people 2;bench 0 0 0 1;", 623);
        due("join 0 1;", 609);
        due("bench 0 0 0 1;bar 0 1;", 622);
        due("bench 0 0 0 1;bar 1 0;", 622);
        due("bench 0 0 0 1;bench 0 0 0 1;people 1;join 0 1;", 646);
        due("whisper 0 0 0;", 614);
        due("bench 0 0 0 1;whisper 0 1 0;", 628);
        due("pillar 0 0;bench 0 0 0 1;", 725);
        due("bench 0 0 0 1;curtain 0 0;", 726);
        due("bench 0 0 0 1;curtain 0 0;people 2;", 635);
        Check.due("WANTS ahead of BENCHES", fault(new HallAnswers(), "join 0 1;whisper 0 1 0;bench 0 0 0 1;bench 0 0 0 1;"), -1);
        Check.due("people ahead of BENCHES", fault(new HallAnswers(), "people 1;bench 0 0 0 1;"), -1);
    }

    private static void whichFaultIsFirst() {
        due("fade 21?", 305);
        due("fade 1000 ?", 105);
        due("x ?", 200);
        due("x?", 200);
        due("hall 3 3;hall ?", 409);
        due("pillar 0 0;pillar 0 0?", 420);
        due("bench 0 0 0 1 tall ?", 214);
        due("fade 1 ?", 107);
        due("bench 0 0 0 1;pillar 0 0;fade", 229);
        due("join 7 7;", 305);
    }

    private static void faultsLeaveAll() {
        HallAnswers x = Check.hall("fade 2;bench 1 1 1 1;pillar 2 2;whisper 3 0 4;");
        x.keep(0);
        Check.due("a FAULT", Check.tell(x, "hall 3 3;fade 9;bench 0 0 0 5;pillar 1 1;whisper 0 0 0;fade 1;"), -65);
        Check.due("the FAULT", x.fault(), 4);
        Check.due("wide stays", x.rule(0), 9);
        Check.due("fade stays", x.rule(2), 2);
        Check.due("benches stay", x.count(0), 1);
        Check.due("bench stays", x.bench(0, 0, 0), 10);
        Check.due("pillar stays", x.cell(20), 1);
        Check.due("no pillar", x.cell(10), 0);
        Check.due("whisper stays", x.said(0, 0), 3);
        Check.due("image stays", x.count(5), 1);
        Check.due("the tape is empty", x.count(6), 0);
        Check.due("the FAULT still", x.fault(), 4);
        Check.due("a FAULT behind all", Check.tell(x, "hall 3 3;people 3;"), -28);
        Check.due("wide stays", x.rule(0), 9);
        Check.due("an empty text", x.text(), 0);
        Check.due("no FAULT", x.fault(), 0);
        Check.due("a new hall", x.count(0), 0);
    }

    private static void ruleAndCell() {
        HallAnswers x = Check.hall("hall 4 5;pillar 3 4;curtain 0 4;warm 2;");
        Check.allDue("rule", Check.BAD, x.rule(-1), x.rule(5), x.rule(Integer.MAX_VALUE));
        x.warm(6);
        Check.due("warm now", x.rule(4), 6);
        Check.due("pillar", x.cell(39), 1);
        Check.due("curtain", x.cell(36), 2);
        Check.due("free", x.cell(38), 0);
        Check.allDue("cell", Check.BAD, x.cell(-1), x.cell(4), x.cell(40), x.cell(45), x.cell(81),
                x.cell(Integer.MIN_VALUE), x.cell(Integer.MAX_VALUE), x.cell(8));
    }

    private static void bench() {
        HallAnswers x = Check.hall("hall 5 4;people 3;bench 4 1 6 9;bench 3 2 5 31 turned;bench 2 3 7 50 moving;"
                + "bench 0 0 1 1 raised;bench 1 0 2 1 listening;bench 1 0 2 45 listening;bench 1 0 3 2 plain;");
        Check.due("plain cell", x.bench(0, 11, 0), 13);
        Check.due("plain facing", x.bench(0, 11, 1), 6);
        Check.due("plain ear", x.bench(0, 11, 2), 9);
        Check.due("turned cell", x.bench(1, 3, 0), 21);
        Check.due("turned facing", x.bench(1, 3, 1), 0);
        Check.due("turned facing", x.bench(1, 11, 1), 0);
        Check.due("turned facing", x.bench(1, 0, 1), 5);
        Check.due("moving cell", x.bench(2, 0, 0), 29);
        Check.due("moving cell", x.bench(2, 3, 0), 27);
        Check.due("moving cell", x.bench(2, 11, 0), 30);
        Check.due("moving facing", x.bench(2, 2, 1), 1);
        Check.due("raised facing", x.bench(3, 5, 1), 1);
        Check.due("listening, 1 at least", x.bench(4, 0, 2), 1);
        Check.due("listening, divided down", x.bench(5, 0, 2), 22);
        Check.due("listening facing", x.bench(5, 3, 1), 2);
        for (int b = 0; b < 7; b++) {
            int[] kinds = {0, 1, 2, 3, 4, 4, 0};
            Check.due("kind " + b, x.bench(b, 0, 3), kinds[b]);
            Check.due("who sits on " + b, x.bench(b, 0, 4), b < 3 ? b : Check.NONE);
        }
        Check.allDue("bench", Check.BAD, x.bench(-1, 0, 0), x.bench(7, 0, 0), x.bench(0, -1, 0), x.bench(0, 12, 0),
                x.bench(0, 0, -1), x.bench(0, 0, 5), x.bench(Integer.MIN_VALUE, Integer.MAX_VALUE, 0));
    }

    private static void want() {
        HallAnswers x = Check.hall("bar 2 0;join 1 2;bench 0 0 0 1;bench 0 0 0 1;bench 0 0 0 1;");
        int[] wants = {2, 0, 0, 1, 2, 1};
        for (int i = 0; i < wants.length; i++) {
            Check.due("want " + i / 3 + " " + i % 3, x.want(i / 3, i % 3), wants[i]);
        }
        Check.allDue("want", Check.BAD, x.want(-1, 0), x.want(2, 0), x.want(0, -1), x.want(0, 3), x.want(8, 0));
    }
}
