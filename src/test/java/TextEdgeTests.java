/** The edges that the document names of THE TAPE, TOKENS, lines (Terms) and in promises 1 to 9; FAULTS: FaultEdgeTests. */
public final class TextEdgeTests {
    public static void main(String[] args) {
        tapeSize();
        blanks();
        tokensAsLongAsMayBe();
        bytesThatAreTokens();
        figures();
        lineForms();
        kinds();
        whisperHours();
        textTellsAll();
        newObject();
        feedAndEnd();
        textAndFault();
        rulesAndCells();
        benchesAndWants();
        Check.finish("TextEdgeTests");
    }

    private static void tapeSize() {
        Check.about("Terms", "THE TAPE has 320 bytes, places from 0.");
        Check.dueFault("?", 1, 0);
        Check.dueFault(" ".repeat(319) + "?", 1, 319);
        Check.dueFault(" ".repeat(319) + ";", 2, 319);
        Check.dueFault(" ".repeat(319) + "x", 2, 319);
        Check.dueFault(" ".repeat(316) + "fade", 2, 320);
        Check.dueFault(" ".repeat(315) + "fade5", 2, 320);
        Check.dueFault(" ".repeat(308) + "bench1 1 1 1", 2, 320);
        Check.dueFault(" ".repeat(301) + "bench1 1 1 1 raised", 2, 320);
        Check.dueFault(" ".repeat(311) + "people 1;", 6, 320);
        Check.dueTaken(" ".repeat(320), 0);
        Check.dueTaken(" ".repeat(313) + "fade 5;", 1);
        Check.dueTaken("fade 5;" + " ".repeat(313), 1);
        Check.due("all of it is read", Check.hall("bounce 6;" + " ".repeat(304) + "fade 5;").rule(2), 5);
    }

    private static void blanks() {
        Check.about("Terms", "blanks (32) ahead, between, behind, as many as wanted (at least one between two NAMES, "
                + "between two NUMBERS; else none is needed)");
        Check.dueTaken("hall3 3;fade1;bounce1;warm1;people1;bench1 1 1 1plain;pillar0 0;whisper0 0 0;", 8);
        Check.dueTaken("bench1 1 1 1;bench1 1 1 1;join0 1;bar1 0;curtain0 0;", 5);
        String wide = "     ";
        Check.dueTaken(wide + "hall" + wide + "3" + wide + "3" + wide + ";" + wide + "bench" + wide + "1" + wide + "1" + wide
                + "1" + wide + "1" + wide + "turned" + wide + ";" + wide, 2);
        Check.dueFault("hall33;", 3, 4);
        Check.dueFault("hall33 ;", 3, 4);
        Check.dueFault("hall3;", 2, 5);
        Check.dueFault("bench1 1 1 1 plainraised;", 2, 13);
        Check.dueFault("fadefade 1;", 2, 0);
        Check.dueFault("fa de 1;", 2, 0);
        Check.dueFault("fade 1 1;", 2, 7);
        for (int b : new int[]{9, 10, 13, 31, 33, 160}) {
            Check.dueFault("fade" + (char) b + "1;", 1, 4);
        }
    }

    private static void tokensAsLongAsMayBe() {
        Check.about("Terms", "TOKENS, each as long as may be");
        Check.dueFault("hal 3 3;", 2, 0);
        Check.dueFault("halls 3 3;", 2, 0);
        Check.dueFault("hallhall 3 3;", 2, 0);
        Check.dueFault("bench 1 1 1 1 plai;", 2, 14);
        Check.dueFault("bench 1 1 1 1 plains;", 2, 14);
        Check.dueFault("fade 1234;", 1, 5);
        Check.dueFault("fade 123;", 3, 5);
        Check.due("two figures are one NUMBER", Check.hall("fade 12;").rule(2), 12);
        Check.due("a NUMBER ends a NAME", Check.hall("fade12;").rule(2), 12);
        for (int n : new int[]{100, 319, 320}) {
            Check.dueFault("x".repeat(n), 2, 0);
            Check.dueFault("1".repeat(n), 1, 0);
            Check.dueFault("0".repeat(n), 1, 0);
        }
        Check.dueFault("fade" + "0".repeat(316), 1, 4);
        Check.dueFault("fade;;", 2, 4);
        Check.dueFault("fade 1;;", 2, 7);
    }

    private static void bytesThatAreTokens() {
        Check.about("Terms", "NAMES (a .. z), NUMBERS (1 to 3 figures), the sign ; (a point is none).");
        Check.dueTaken(" ", 0);
        for (int b = 0; b < 256; b++) {
            char c = (char) b;
            boolean goesOn = c >= 'a' && c <= 'z';
            boolean isFigure = c >= '0' && c <= '9';
            int fault = goesOn || isFigure || c == ';' ? 2 : 1;
            if (c != ' ') {
                Check.dueFault("" + c, fault, 0);
                Check.dueFault("  " + c, fault, 2);
                // a letter makes another NAME, a figure leaves the end to be met
                Check.dueFault("fade" + c, fault, goesOn ? 0 : isFigure ? 5 : 4);
            }
        }
    }

    private static void figures() {
        Check.about("Terms", "NUMBERS (1 to 3 figures)");
        Check.due("one", Check.hall("bench 0 0 0 7;").bench(0, 0, 2), 7);
        Check.due("two", Check.hall("bench 0 0 0 07;").bench(0, 0, 2), 7);
        Check.due("three", Check.hall("bench 0 0 0 007;").bench(0, 0, 2), 7);
        Check.due("three", Check.hall("bench 0 0 0 100;").bench(0, 0, 2), 100);
        Check.due("a NUMBER of noughts", Check.hall("bench 000 000 000 001;").bench(0, 0, 0), 0);
        Check.dueFault("bench 0 0 0 0007;", 1, 12);
        Check.dueFault("bench 0 0 0 1000;", 1, 12);
        Check.dueFault("bench 0 0 0 4294967297;", 1, 12);
        Check.dueFault("bench 0 0 0 18446744073709551617;", 1, 12);
    }

    private static void lineForms() {
        Check.about("Terms", "line: hall N N ; | fade N ; | bounce N ; | warm N ; | people N ; | bench N N N N [ K ] ; | "
                + "pillar N N ; | curtain N N ; | join N N ; | bar N N ; | whisper N N N ;");
        Check.dueTaken("hall 4 5;fade 6;bounce 7;warm 8;people 2;bench 0 0 0 1;bench 1 0 0 1;pillar 2 0;curtain 3 0;join 0 1;"
                + "bar 1 0;whisper 0 0 0;", 12);
        Check.dueTaken("whisper 0 1 0;bar 1 0;join 0 1;curtain 3 0;pillar 2 0;bench 0 0 0 1;bench 1 0 0 1;people 2;"
                + "warm 8;bounce 7;fade 6;hall 4 5;", 12);
        Check.about("Terms", "text: { line }");
        Check.dueTaken("", 0);
        Check.dueTaken("fade 1;", 1);
        Check.dueTaken("pillar0 0;pillar0 1;pillar0 2;pillar0 3;pillar0 4;pillar0 5;pillar0 6;pillar1 0;pillar1 1;"
                + "pillar1 2;pillar1 3;pillar1 4;pillar1 5;pillar1 6;pillar2 0;pillar2 1;pillar2 2;pillar2 3;pillar2 4;"
                + "pillar2 5;pillar2 6;pillar3 0;pillar3 1;pillar3 2;pillar3 3;pillar3 4;pillar3 5;pillar3 6;pillar4 0;"
                + "pillar4 1;pillar4 2;pillar4 3;", 32);
    }

    private static void kinds() {
        Check.about("Terms", "K: plain | turned | moving | raised | listening");
        String[] names = {"plain", "turned", "moving", "raised", "listening"};
        for (int kind = 0; kind < 5; kind++) {
            Check.due(names[kind], Check.hall("bench 0 0 0 1 " + names[kind] + ";").bench(0, 0, 3), kind);
            String cut = "bench 0 0 0 1 " + names[kind].substring(0, names[kind].length() - 1);
            Check.dueFault(cut + ";", 2, 14);
            Check.dueFault("bench 0 0 0 1 " + names[kind] + "s;", 2, 14);
            Check.dueFault(names[kind] + ";", 2, 0);
        }
        Check.due("none is told", Check.hall("bench 0 0 0 1;").bench(0, 0, 3), 0);
    }

    private static void whisperHours() {
        Check.about("Terms", "whisper: HOUR (no less than that of the one ahead), a ONE, a SECRET.");
        String bench = "bench 0 0 0 1;";
        Check.dueTaken(bench + "whisper 0 0 0;whisper 0 0 0;whisper 11 0 0;whisper 11 0 0;", 5);
        Check.dueFault(bench + "whisper 12 0 0;", 3, 22);
        Check.dueFault(bench + "whisper 1 0 0;whisper 0 0 0;", 3, 36);
        Check.dueFault(bench + "whisper 11 0 0;whisper 10 0 0;", 3, 37);
        Check.dueFault(bench + "whisper 5 0 0;whisper 7 0 0;whisper 6 0 0;", 3, 50);
        Check.dueFault(bench + "whisper 0 6 0;", 3, 24);
        HallAnswers x = Check.hall(bench + "whisper 9 0 0;");
        Check.due("what was there ahead of the text does not matter", Check.tell(x, bench + "whisper 0 0 0;"), 2);
        Check.due("nor a text that was refused", Check.tell(x, bench + "whisper 9 0 0;whisper 12 0 0;"), -46);
        Check.due("nor a text that was refused", Check.tell(x, bench + "whisper 0 0 0;"), 2);
    }

    private static void textTellsAll() {
        Check.about("Terms", "A text that is taken tells all, in place of what there was (what it does not tell is as at first); "
                + "IMAGES are gone; SHEETS stay.");
        for (String text : new String[]{"", "bench 3 3 3 3;", "hall 3 3;", Halls.RICH}) {
            Twins.alike("behind what there was: " + text, 1, 7, () -> Check.hall(text), () -> {
                HallAnswers x = Halls.full();
                x.end(0);
                Check.tell(x, text);
                return x;
            });
        }
        HallAnswers x = Halls.full();
        x.end(0);
        Check.due("taken", x.text(), 0);
        Check.eachDue("as at first", Check.row(9, 7, 3, 5, 0), x.rule(0), x.rule(1), x.rule(2), x.rule(3), x.rule(4));
        for (int what = 0; what < 7; what++) {
            Check.due("count " + what, x.count(what), 0);
        }
        Check.eachDue("IMAGES are gone", Check.row(Check.STATE, Check.STATE), x.back(0), x.back(1));
        Check.eachDue("SHEETS stay", Check.row(9, 1, -12, 1, -12, 1, -12, -11), x.count(7), x.lay(0, 8, 0), x.lay(0, 9, 0),
                x.lay(1, 6, 0), x.lay(1, 7, 0), x.lay(2, 4, 0), x.lay(2, 5, 0), x.lay(3, 0, 0));
        HallAnswers y = Halls.rich();
        y.end(0);
        Check.tell(y, "bench 0 0 0 1;".repeat(5));
        Check.due("what was laid stays", y.read(0, 0, 0, 1), 1);
        Check.eachDue("what was laid stays", Check.row(0, 1, 2), y.said(0, 0), y.said(0, 1), y.said(0, 2));
    }

    private static void newObject() {
        Check.about("Promise 1", "As told at first, no BENCHES; SHEETS of nothing.");
        HallAnswers x = new HallAnswers();
        Check.eachDue("RULES", Check.row(Check.BAD, 9, 7, 3, 5, 0, Check.BAD), x.rule(-1), x.rule(0), x.rule(1), x.rule(2),
                x.rule(3), x.rule(4), x.rule(5));
        Check.eachDue("counts", Check.row(0, 0, 0, 0, 0, 0, 0, Check.NONE), x.count(0), x.count(1), x.count(2), x.count(3),
                x.count(4), x.count(5), x.count(6), x.count(7));
        Check.allDue("no BENCH, no ONE, no WANT, no WHISPER", Check.BAD, x.bench(0, 0, 0), x.want(0, 0), x.sit(0, 0),
                x.way(0, 0, 0), x.steps(0, 0), x.hears(0, 1, 0, 0), x.heard(0, 0), x.answer(0, 0), x.can(0, 1, 0),
                x.say(0, 0, 0), x.unsay(1), x.said(0, 0), x.knows(0, 0), x.since(0, 0), x.leak(0, 1, 0), x.without(0),
                x.from(1, 0), x.where(1, 0, 0), x.seating(0, 10));
        Check.allDue("nothing", Check.NONE, x.curtain(0, 0), x.clear(0, 0), x.leak(0, 0, 0), x.count(7));
        Check.allDue("nothing", 0, x.fault(), x.torn(), x.text(), x.end(0), x.unsay(0), x.broken(11), x.seating(0, 0),
                x.days(0, 9, 0), x.best(0, 0), x.best(0, 1), x.from(0, 0), x.read(3, 2, 0, 0));
        Check.allDue("no IMAGE, no PEOPLE", Check.STATE, x.back(0), x.back(1), x.murmur(0, 1, 0));
        Check.allDue("SHEETS of nothing", -11, x.lay(0, 0, 0), x.lay(1, 0, 0), x.lay(2, 0, 0), x.lay(3, 0, 0));
        Check.eachDue("HOURS, SEATINGS", Check.row(4095, 1), x.hours(), x.seating(0, 1));
        Twins.alike("as behind an empty text", 0, 12, Halls::empty, () -> Check.hall(""));
        Twins.alike("whatever there is in another", 0, 12, Halls::empty, () -> {
            Halls.full();
            return new HallAnswers();
        });
    }

    private static void feedAndEnd() {
        Check.about("Promise 2", "Eight bytes come behind THE TAPE, the highest first: how many it has.");
        HallAnswers x = new HallAnswers();
        // "fade   9" and ";bounce8", then ";"
        Check.eachDue("feed", Check.row(8, 16, 24), x.feed(0x6661646520202039L), x.feed(0x3b626f756e636538L), x.feed(0x3b20202020202020L));
        Check.eachDue("read in that order", Check.row(2, 9, 8), x.text(), x.rule(2), x.rule(3));
        Check.eachDue("all bits", Check.row(8, -10, 8, -10), x.feed(-1L), x.text(), x.feed(Long.MIN_VALUE), x.text());
        Check.about("Promise 2", "FULL: more than 320.");
        for (int bytes = 312; bytes <= 320; bytes++) {
            HallAnswers y = withBytes(bytes);
            Check.due("behind " + bytes, y.feed(0x3f3f3f3f3f3f3f3fL), bytes == 312 ? 320 : Check.FULL);
            Check.due("bytes", y.count(6), bytes == 312 ? 320 : bytes);
            Check.due("what was fed is refused, not what was there", y.text(), bytes == 312 ? -10 - 312 : 0);
        }
        HallAnswers f = Halls.rich();
        f.end(0);
        Twins.refused("feed of a full TAPE", Check.FULL, () -> withBytes(316), y -> y.feed(0x6161616161616161L));
        Check.about("Promise 3", "THE TAPE keeps its first n bytes: how many it had.");
        HallAnswers e = new HallAnswers();
        Check.feed(e, "fade 12;");
        Check.eachDue("all, none", Check.row(8, 8, 6, 6), e.end(8), e.end(6), e.count(6), e.end(6));
        Check.feed(e, "9;");
        Check.eachDue("what comes behind comes there", Check.row(8, 1, 19), e.count(6), e.text(), e.rule(2));
        Check.eachDue("none", Check.row(0, 8, 8, 0), e.end(0), e.feed(0), e.end(0), e.count(6));
        Check.due("nothing is left of it", Check.tell(e, "fade 3;"), 1);
        behindTheEnd();
        HallAnswers full = withBytes(320);
        Check.eachDue("of a full one", Check.row(320, 320, 319, Check.BAD),
                full.end(320), full.end(319), full.end(312), full.end(313));
        Check.about("Promise 3", "BAD (n above that, too).");
        Twins.refused("end(-1)", Check.BAD, Halls::rich, y -> y.end(-1));
        Twins.refused("end(14)", Check.BAD, Halls::rich, y -> y.end(14));
        Twins.refused("end(1)", Check.BAD, Halls::empty, y -> y.end(1));
        Twins.refused("end(321)", Check.BAD, () -> withBytes(320), y -> y.end(321));
        Twins.refused("end of the least", Check.BAD, Halls::rich, y -> y.end(Integer.MIN_VALUE));
        Twins.refused("end of the greatest", Check.BAD, Halls::rich, y -> y.end(Integer.MAX_VALUE));
        Check.due("as many as there are", Halls.rich().end(13), 13);
    }

    /** What end() has cut off is not read, however it would go on. */
    private static void behindTheEnd() {
        String[] texts = {"fade 999;", "fade 9;?", "fade 9;;", "bench 1 1 1 1raised;", "hallo", "fade 9; fade", "fade 1    ;"};
        int[] kept = {6, 7, 7, 15, 4, 8, 7};
        int[] due = {-16, 1, 1, -23, -14, 1, -17};
        for (int i = 0; i < texts.length; i++) {
            HallAnswers x = new HallAnswers();
            Check.feed(x, texts[i]);
            Check.eachDue(texts[i] + " but for what is behind " + kept[i], Check.row(texts[i].length(), due[i]), x.end(kept[i]), x.text());
        }
        HallAnswers used = new HallAnswers();
        Check.tell(used, "9".repeat(320));
        Check.eachDue("nor what an earlier text left", Check.row(-16, 2), Check.tell(used, "fade 9"), used.fault());
    }

    private static HallAnswers withBytes(int n) {
        HallAnswers x = new HallAnswers();
        Check.feed(x, " ".repeat(n));
        return x;
    }

    private static void textAndFault() {
        Check.about("Promise 4", "THE TAPE (empty then, by a FAULT, too) tells all: how many lines; -10 less the place of its "
                + "FAULT: that which was told stays.");
        Check.dueTaken("fade 1;bounce 1;", 2);
        Check.dueFault("fade 1;bounce 1", 2, 15);
        HallAnswers twice = Check.hall("fade 9;");
        Check.eachDue("it is empty, the next tells nothing", Check.row(0, 0, 3), twice.count(6), twice.text(), twice.rule(2));
        HallAnswers torn = Halls.rich();
        Check.eachDue("by a FAULT, too", Check.row(-23, 0, 2, 0, 0, 0), torn.text(), torn.count(6), torn.fault(), torn.text(),
                torn.fault(), torn.count(0));
        for (String text : new String[]{"?", "fade 21;", "hall 3 3;bench 9", "people 6;", "fade 1;fade 1;",
            "bench 0 0 0 1;".repeat(9), "pillar 1 1;bench 1 1 0 1;", "fade"}) {
            Twins.alike("what was told stays behind " + text, 1, 12, () -> tapeGone(""), () -> tapeGone(text));
        }
        Check.about("Promise 5", "The FAULT of the latest text(); 0.");
        HallAnswers x = new HallAnswers();
        Check.due("of none", x.fault(), 0);
        String[] texts = {"?", "x", "fade 21;", "join 1 1;", "bench 0 0 0 1;".repeat(9), "people 1;", "bench 0 0 0 1;pillar 0 0;"};
        for (int fault = 1; fault <= 7; fault++) {
            Check.due("refused", Check.tell(x, texts[fault - 1]) < 0 ? 1 : 0, 1);
            Check.eachDue("FAULT " + fault + ", twice asked", Check.row(fault, fault), x.fault(), x.fault());
            Check.feed(x, "fade 1;");
            x.warm(3);
            Check.due("what comes behind leaves it", x.fault(), fault);
            x.end(0);
        }
        Check.eachDue("0 when one is taken", Check.row(0, 0), x.text(), x.fault());
    }

    /** A rich hall that was told this text; its FAULT is another, which questions 1 to 12 do not ask. */
    private static HallAnswers tapeGone(String text) {
        HallAnswers x = Halls.rich();
        x.end(0);
        if (!text.isEmpty()) {
            Check.tell(x, text);
        }
        return x;
    }

    private static void rulesAndCells() {
        Check.about("Promise 6", "RULES 0 to 4. BAD.");
        for (int what : new int[]{-1, 5, Integer.MIN_VALUE, Integer.MAX_VALUE}) {
            Twins.refused("rule(" + what + ")", Check.BAD, Halls::rich, x -> x.rule(what));
        }
        HallAnswers x = Halls.rich();
        Check.eachDue("all", Check.row(8, 6, 1, 2, 2), x.rule(0), x.rule(1), x.rule(2), x.rule(3), x.rule(4));
        Check.about("Promise 7", "A CELL: 0 free, 1 a PILLAR, 2 a CURTAIN. BAD.");
        Check.eachDue("those of the hall", Check.row(0, 0, 1, 2, 2, 0, 0), x.cell(0), x.cell(7), x.cell(20), x.cell(22), x.cell(5),
                x.cell(45), x.cell(52));
        for (int c : new int[]{-1, 8, 17, 53, 54, 61, 63, 80, 81, 82, Integer.MIN_VALUE, Integer.MAX_VALUE}) {
            Twins.refused("cell(" + c + ")", Check.BAD, Halls::rich, y -> y.cell(c));
        }
        Check.eachDue("of the greatest hall", Check.row(0, 0, Check.BAD), Check.hall("hall 9 9;").cell(8), Check.hall("hall 9 9;").cell(80),
                Check.hall("hall 9 9;").cell(81));
    }

    private static void benchesAndWants() {
        Check.about("Promise 8", "Of a BENCH in an HOUR: 0 its CELL, 1 FACING, 2 EAR, 3 KIND, 4 who sits there (NONE). BAD.");
        HallAnswers x = Halls.rich();
        Check.eachDue("BENCH 0 in HOUR 0", Check.row(0, 2, 20, 0, 1), x.bench(0, 0, 0), x.bench(0, 0, 1), x.bench(0, 0, 2),
                x.bench(0, 0, 3), x.bench(0, 0, 4));
        Check.eachDue("BENCH 2 in HOUR 11", Check.row(14, 7, 10, 2, 2), x.bench(2, 11, 0), x.bench(2, 11, 1), x.bench(2, 11, 2),
                x.bench(2, 11, 3), x.bench(2, 11, 4));
        Check.eachDue("BENCH 7, and BENCHES of nobody", Check.row(16, 1, 20, 0, 0, Check.NONE, Check.NONE), x.bench(7, 11, 0),
                x.bench(7, 11, 1), x.bench(7, 11, 2), x.bench(7, 11, 3), x.bench(7, 11, 4), x.bench(6, 0, 4), x.bench(1, 0, 4));
        int[][] bad = {{-1, 0, 0}, {8, 0, 0}, {0, -1, 0}, {0, 12, 0}, {0, 0, -1}, {0, 0, 5}, {Integer.MIN_VALUE, 0, 4},
            {Integer.MAX_VALUE, 0, 4}, {0, 0, Integer.MAX_VALUE}};
        for (int[] a : bad) {
            Twins.refused("bench" + java.util.Arrays.toString(a), Check.BAD, Halls::rich, y -> y.bench(a[0], a[1], a[2]));
        }
        Check.about("Promise 9", "Of WANT i: 0 who, 1 whom, 2 JOINED (1) or BARRED (0). BAD.");
        Check.eachDue("the first, the last", Check.row(0, 1, 1, 1, 3, 0), x.want(0, 0), x.want(0, 1), x.want(0, 2), x.want(7, 0),
                x.want(7, 1), x.want(7, 2));
        int[][] badWants = {{-1, 0}, {8, 0}, {0, -1}, {0, 3}, {Integer.MIN_VALUE, 0}, {Integer.MAX_VALUE, 2}};
        for (int[] a : badWants) {
            Twins.refused("want" + java.util.Arrays.toString(a), Check.BAD, Halls::rich, y -> y.want(a[0], a[1]));
        }
        HallAnswers one = Check.hall("bench 0 0 0 1;bench 0 0 0 1;bar 0 1;");
        Check.eachDue("one there is", Check.row(0, Check.BAD), one.want(0, 0), one.want(1, 0));
    }
}
