/** Halls that many tests begin with. */
final class Halls {
    /** Eight BENCHES of all KINDS, six PEOPLE, eight WANTS, two WHISPERS. */
    static final String RICH = "hall 8 6;fade1;bounce2;warm3;bench0 0 2 20;bench1 0 3 30turned;bench2 1 4 10moving;"
        + "bench3 2 5 40raised;bench4 3 6 50listening;bench5 4 7 20;bench6 5 0 20;bench7 1 1 20;pillar4 0;curtain5 0;"
        + "join0 1;bar1 2;join2 3;bar3 4;join4 5;bar5 0;join0 2;bar1 3;whisper0 0 0;whisper1 1 1;";

    private Halls() {
    }

    static HallAnswers empty() {
        return new HallAnswers();
    }

    /** There is some of all: two IMAGES unlike one another, three SHEETS, bytes on THE TAPE, FAULTS of text() and read(). */
    static HallAnswers rich() {
        HallAnswers x = Check.hall(RICH);
        x.keep(0);
        x.hang(20, 1);
        x.warm(5);
        x.sit(0, 7);
        x.say(2, 2, 2);
        x.keep(1);
        x.hang(22, 2);
        x.hang(4, 0);
        x.warm(2);
        x.sit(1, 0);
        x.say(4, 3, 1);
        for (int k = 0; k < 3; k++) {
            x.sheet(k, k, 9 - 2 * k);
            for (int i = 0; i < 9 - 2 * k; i++) {
                x.lay(k, i, (i + k) % 5);
            }
        }
        Check.tell(x, "fade 21;");
        x.read(3, 0, 0, 1);
        Check.feed(x, "bounce 7;fade");
        return x;
    }

    /** Likewise, with twelve WHISPERS. */
    static HallAnswers full() {
        HallAnswers x = rich();
        for (int i = x.count(4); i < 12; i++) {
            x.say(4 + i / 3, i % 6, i % 8);
        }
        return x;
    }
}
