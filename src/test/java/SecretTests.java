/** Promises 26 to 33: WHISPERS and what they tell. */
public final class SecretTests {
    /** A row: 0 is HEARD by 1, 1 by 2, 2 by 3, 3 by nobody. */
    private static final String ROW = "hall 9 3;fade 20;bounce 50;bench 0 0 2 80;bench 1 0 2 80;bench 2 0 2 80;bench 3 0 0 80;";

    public static void main(String[] args) {
        say();
        unsay();
        said();
        knows();
        since();
        leak();
        without();
        murmur();
        changesAreFelt();
        Check.finish("SecretTests");
    }

    private static void say() {
        HallAnswers x = Check.hall(ROW);
        Check.due("first", x.say(3, 0, 0), 1);
        Check.due("same hour", x.say(3, 3, 7), 2);
        Check.allDue("say", Check.BAD, x.say(2, 0, 0), x.say(12, 0, 0), x.say(-1, 0, 0), x.say(3, 4, 0), x.say(3, -1, 0),
                x.say(3, 0, 8), x.say(3, 0, -1));
        Check.due("refused ones are not there", x.count(4), 2);
        for (int i = 3; i <= 12; i++) {
            Check.due("whisper " + i, x.say(11, 1, 1), i);
        }
        Check.due("the 13th", x.say(11, 1, 1), Check.FULL);
        Check.due("BAD ahead of FULL", x.say(10, 1, 1), Check.BAD);
        Check.due("BAD ahead of FULL", x.say(11, 6, 1), Check.BAD);
        Check.due("nobody to whisper", new HallAnswers().say(0, 0, 0), Check.BAD);
    }

    private static void unsay() {
        HallAnswers x = Check.hall(ROW + "whisper 1 0 0;whisper 5 1 2;whisper 7 0 0;");
        Check.allDue("unsay", Check.BAD, x.unsay(-1), x.unsay(4), x.unsay(Integer.MIN_VALUE));
        Check.due("all stay", x.unsay(3), 3);
        Check.due("two stay", x.unsay(2), 3);
        Check.due("an earlier hour", x.say(4, 0, 0), Check.BAD);
        Check.due("the hour of the one ahead", x.say(5, 0, 0), 3);
        Check.due("none stays", x.unsay(0), 3);
        Check.due("said", x.said(0, 0), Check.BAD);
        Check.due("any hour", x.say(0, 0, 0), 1);
    }

    private static void said() {
        HallAnswers x = Check.hall(ROW + "whisper 1 0 5;whisper 2 2 5;whisper 2 2 6;whisper 4 1 5;whisper 11 2 5;");
        int[] hours = {1, 2, 2, 4, 11};
        int[] ones = {0, 2, 2, 1, 2};
        int[] secrets = {5, 5, 6, 5, 5};
        int[] whispered = {1, 0, 1, 1, 1};
        for (int i = 0; i < 5; i++) {
            Check.due("hour " + i, x.said(i, 0), hours[i]);
            Check.due("one " + i, x.said(i, 1), ones[i]);
            Check.due("secret " + i, x.said(i, 2), secrets[i]);
            Check.due("whispered " + i, x.said(i, 3), whispered[i]);
        }
        Check.allDue("said", Check.BAD, x.said(-1, 0), x.said(5, 0), x.said(0, -1), x.said(0, 4), x.said(12, 3));
    }

    private static void knows() {
        HallAnswers x = Check.hall(ROW + "whisper 1 0 5;whisper 2 2 5;whisper 2 2 6;whisper 4 1 5;whisper 11 2 5;");
        int[] ofTwo = {0, 0, 0, 64, 96, 96};
        int[] ofThree = {0, 0, 0, 64, 64, 96};
        for (int n = 0; n <= 5; n++) {
            Check.due("ONE 2 behind " + n, x.knows(2, n), ofTwo[n]);
            Check.due("ONE 3 behind " + n, x.knows(3, n), ofThree[n]);
        }
        Check.due("who whispers KNOWS it", x.knows(0, 1), 32);
        x.say(11, 3, 0);
        x.say(11, 3, 7);
        Check.due("the first, the last SECRET", x.knows(3, 7), 1 + 32 + 64 + 128);
        Check.due("as many as are asked for", x.knows(3, 6), 1 + 32 + 64);
        Check.allDue("knows", Check.BAD, x.knows(-1, 0), x.knows(4, 0), x.knows(0, -1), x.knows(0, 8));
    }

    private static void since() {
        HallAnswers x = Check.hall(ROW + "whisper 1 0 5;whisper 2 2 5;whisper 2 2 6;whisper 4 1 5;whisper 11 2 5;");
        int[] five = {0, 0, 3, 4};
        for (int p = 0; p < 4; p++) {
            Check.due("ONE " + p, x.since(p, 5), five[p]);
        }
        Check.due("told", x.since(3, 6), 2);
        Check.allDue("never", Check.NONE, x.since(0, 6), x.since(1, 6), x.since(0, 0));
        Check.allDue("since", Check.BAD, x.since(-1, 0), x.since(4, 0), x.since(0, -1), x.since(0, 8));
    }

    private static void leak() {
        HallAnswers x = Check.hall(ROW + "whisper 1 0 5;whisper 2 2 5;whisper 2 2 6;whisper 4 1 5;whisper 11 2 5;");
        Check.due("0 and 1 may", x.leak(5, 3, 0), 3);
        Check.due("who", x.leak(5, 3, 1), 1);
        Check.due("to whom", x.leak(5, 3, 2), 4);
        Check.due("nobody may", x.leak(5, 0, 0), 0);
        Check.due("who", x.leak(5, 0, 1), 0);
        Check.due("whom: himself, too", x.leak(5, 0, 2), 3);
        Check.due("by the last", x.leak(5, 7, 0), 4);
        Check.due("by the last", x.leak(5, 7, 2), 8);
        Check.due("another set", x.leak(5, 14, 2), 1);
        Check.allDue("none", Check.NONE, x.leak(5, 15, 0), x.leak(5, 15, 1), x.leak(5, 15, 2), x.leak(0, 0, 0), x.leak(6, 12, 2));
        Check.allDue("leak", Check.BAD, x.leak(-1, 0, 0), x.leak(8, 0, 0), x.leak(5, -1, 0), x.leak(5, 16, 0), x.leak(5, 3, -1),
                x.leak(5, 3, 3));
        Check.due("no people", new HallAnswers().leak(0, 0, 0), Check.NONE);
        Check.due("no people", new HallAnswers().leak(0, 1, 0), Check.BAD);
    }

    private static void without() {
        HallAnswers x = Check.hall(ROW + "whisper 1 0 5;whisper 2 2 5;whisper 2 2 6;whisper 4 1 5;whisper 11 2 5;");
        Check.due("the first: then 2 begins it, 3 hears it", x.without(0), 2);
        Check.due("the second was not whispered", x.without(1), 0);
        Check.due("another secret", x.without(2), 2);
        Check.due("those behind it stay unwhispered", x.without(3), 2);
        Check.due("the last", x.without(4), 1);
        Check.due("all are there still", x.count(4), 5);
        Check.allDue("without", Check.BAD, x.without(-1), x.without(5), x.without(12));
        HallAnswers y = Check.hall(ROW + "whisper 0 3 1;whisper 1 0 1;whisper 1 1 1;whisper 1 2 1;");
        Check.due("without it they are told more", y.without(0), -103);
        Check.due("that was not whispered", y.without(1), 0);
    }

    private static void murmur() {
        HallAnswers x = Check.hall(ROW + "whisper 1 0 5;");
        int seed = -77;
        x.murmur(-77, 12, 9);
        Check.due("twelve", x.count(4), 12);
        int whispered = 0;
        for (int i = 0; i < 12; i++) {
            seed = seed * 1103515245 + 12345;
            Check.due("hour " + i, x.said(i, 0), 9);
            Check.due("one " + i, x.said(i, 1), (seed >>> 16 & 0x7fff) % 4);
            seed = seed * 1103515245 + 12345;
            Check.due("secret " + i, x.said(i, 2), (seed >>> 16 & 0x7fff) % 8);
            whispered += x.said(i, 3);
        }
        Check.due("how many are whispered", x.murmur(-77, 12, 9), whispered);
        Check.due("one", x.murmur(5, 1, 0), 1);
        Check.due("one", x.count(4), 1);
        Check.allDue("murmur", Check.BAD, x.murmur(5, 0, 0), x.murmur(5, 13, 0), x.murmur(5, -1, 0), x.murmur(5, 1, -1),
                x.murmur(5, 1, 12), new HallAnswers().murmur(5, 0, 0), new HallAnswers().murmur(5, 1, 12));
        Check.due("no people", new HallAnswers().murmur(5, 1, 0), Check.STATE);
        HallAnswers y = Check.hall(ROW + "people 1;");
        Check.due("one ONE", y.murmur(3, 6, 0), 6);
        Check.due("he whispers", y.said(5, 1), 0);
        Check.due("people 0", Check.hall(ROW + "people 0;").murmur(5, 12, 11), Check.STATE);
    }

    private static void changesAreFelt() {
        HallAnswers x = Check.hall(ROW + "whisper 1 0 5;whisper 2 1 5;");
        x.sit(0, 3);
        Check.due("ONE 3 sits on BENCH 0, ONE 0 whispers on BENCH 3", x.knows(1, 2), 0);
        Check.due("not whispered then", x.said(1, 3), 0);
        HallAnswers y = Check.hall("hall 9 3;fade 20;bounce 50;bench 0 0 1 80 turned;bench 1 0 2 80;whisper 0 0 1;whisper 1 0 1;");
        Check.due("turned by the hour of the WHISPER", y.since(1, 1), 1);
        y.hang(4, 1);
        Check.due("a pillar elsewhere", y.since(1, 1), 1);
        y.warm(1);
        Check.due("a warm day", y.since(1, 1), Check.NONE);
    }
}
