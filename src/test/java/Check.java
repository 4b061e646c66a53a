/** What the tests share: a text told to a hall, an answer held against the one that is due. */
final class Check {
    static final int BAD = -1, STATE = -2, FULL = -3, NONE = -4;

    private static int asked = 0;
    private static int wrong = 0;

    private Check() {
    }

    static void due(String call, long got, long want) {
        asked++;
        if (got != want) {
            wrong++;
            System.out.println(call + " answered " + got + ", due is " + want);
        }
    }

    /** Of calls that all have the same answer. */
    static void allDue(String calls, long want, long... got) {
        for (int i = 0; i < got.length; i++) {
            due(calls + " (number " + i + ")", got[i], want);
        }
    }

    static void feed(HallAnswers x, String text) {
        int before = x.count(6);
        for (int at = 0; at < text.length(); at += 8) {
            long v = 0;
            for (int i = at; i < at + 8; i++) {
                v = v << 8 | (i < text.length() ? text.charAt(i) & 255 : ' ');
            }
            x.feed(v);
        }
        x.end(before + text.length());
    }

    static int tell(HallAnswers x, String text) {
        feed(x, text);
        return x.text();
    }

    static HallAnswers hall(String text) {
        HallAnswers x = new HallAnswers();
        if (tell(x, text) < 0) {
            due("a text that is taken: " + text, x.fault(), 0);
        }
        return x;
    }

    static void finish(String name) {
        System.out.println(name + ": " + (asked - wrong) + " of " + asked + " answers as due");
        if (wrong != 0 || asked == 0) {
            System.exit(1);
        }
    }
}
