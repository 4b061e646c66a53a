import java.util.ArrayList;
import java.util.List;
import java.util.function.Consumer;
import java.util.function.Supplier;
import java.util.function.ToIntFunction;

/**
 * Two halls made by the same calls, one of them given a call more that is refused: from then on both must answer alike.
 * What is asked is split among many such pairs, since a hall is told of for 512 calls only.
 */
final class Twins {
    private static final List<ToIntFunction<Asking>> QUESTIONS = List.of(Twins::askTold, Twins::askBenches,
        Twins::askWays, Twins::askHearing, Twins::askWhispers, Twins::askSeats, x -> askImage(x, 0), x -> askImage(x, 1),
        Twins::askTape, x -> askSheet(x, 0), x -> askSheet(x, 1), x -> askSheet(x, 2), x -> askSheet(x, 3));

    /** A hall that notes what it has answered. */
    static final class Asking {
        final HallAnswers hall;
        final List<Integer> answers = new ArrayList<>();

        Asking(HallAnswers asked) {
            hall = asked;
        }

        void note(int answer) {
            answers.add(answer);
        }
    }

    private Twins() {
    }

    /** That the call is refused by this answer and changes nothing. */
    static void refused(String call, int answer, Supplier<HallAnswers> made, ToIntFunction<HallAnswers> given) {
        HallAnswers first = made.get();
        Check.due(call, given.applyAsInt(first), answer);
        same(call + " changes nothing", made, x -> given.applyAsInt(x));
    }

    /** That a hall that was given this is as one that was not. */
    static void same(String what, Supplier<HallAnswers> made, Consumer<HallAnswers> given) {
        for (int i = 0; i < QUESTIONS.size(); i++) {
            Asking plain = new Asking(made.get());
            Asking other = new Asking(made.get());
            given.accept(other.hall);
            compare(what, i, plain, other);
        }
    }

    /** That two makings tell the same hall by the questions from first to last (numbers in QUESTIONS). */
    static void alike(String what, int first, int last, Supplier<HallAnswers> one, Supplier<HallAnswers> another) {
        for (int i = first; i <= last; i++) {
            compare(what, i, new Asking(one.get()), new Asking(another.get()));
        }
    }

    private static void compare(String what, int question, Asking plain, Asking other) {
        QUESTIONS.get(question).applyAsInt(plain);
        QUESTIONS.get(question).applyAsInt(other);
        int unlike = 0;
        for (int i = 0; i < plain.answers.size(); i++) {
            unlike += plain.answers.get(i).equals(other.answers.get(i)) ? 0 : 1;
        }
        Check.due(what + ": answers unlike of question " + question, unlike, 0);
    }

    private static int askTold(Asking x) {
        for (int i = -1; i < 6; i++) {
            x.note(x.hall.rule(i));
        }
        for (int c = 0; c < 81; c++) {
            x.note(x.hall.cell(c));
        }
        for (int i = 0; i < 24; i++) {
            x.note(x.hall.want(i / 3, i % 3));
        }
        for (int what = 0; what < 8; what++) {
            x.note(x.hall.count(what));
        }
        x.note(x.hall.fault());
        x.note(x.hall.torn());
        x.note(x.hall.hours());
        return 0;
    }

    private static int askBenches(Asking x) {
        for (int b = 0; b < 8; b++) {
            for (int hour = 0; hour < 12; hour += 11) {
                for (int what = 0; what < 5; what++) {
                    x.note(x.hall.bench(b, hour, what));
                }
            }
        }
        for (int hour = 0; hour < 12; hour++) {
            for (int b = 0; b < 8; b++) {
                x.note(x.hall.heard(b, hour));
            }
        }
        return 0;
    }

    private static int askWays(Asking x) {
        for (int b = 0; b < 8; b++) {
            for (int i = 0; i <= 40; i++) {
                x.note(x.hall.way(b, 0, i));
            }
        }
        return 0;
    }

    private static int askHearing(Asking x) {
        for (int b = 0; b < 8; b++) {
            for (int c = 0; c < 8; c++) {
                for (int what = 0; what < 3; what++) {
                    x.note(x.hall.hears(b, c, 5, what));
                }
            }
            x.note(x.hall.steps(b, 11));
            x.note(x.hall.answer(b, 3));
        }
        return 0;
    }

    private static int askWhispers(Asking x) {
        for (int i = 0; i < 48; i++) {
            x.note(x.hall.said(i / 4, i % 4));
        }
        for (int p = 0; p < 6; p++) {
            for (int n = 0; n <= 12; n++) {
                x.note(x.hall.knows(p, n));
            }
            for (int secret = 0; secret < 8; secret++) {
                x.note(x.hall.since(p, secret));
            }
        }
        for (int i = 0; i < 12; i++) {
            x.note(x.hall.without(i));
        }
        return 0;
    }

    private static int askSeats(Asking x) {
        for (int hour = 0; hour < 12; hour++) {
            x.note(x.hall.broken(hour));
        }
        for (int i = 0; i < 36; i++) {
            x.note(x.hall.can(i / 6, i % 6, 0));
        }
        for (int what = 0; what < 16; what++) {
            x.note(x.hall.seating(0, what));
        }
        for (int what = 0; what < 2; what++) {
            x.note(x.hall.curtain(0, what));
            x.note(x.hall.clear(0, what));
            x.note(x.hall.best(0, what));
            x.note(x.hall.days(0, 9, what));
        }
        return 0;
    }

    private static int askImage(Asking x, int k) {
        x.note(x.hall.back(k));
        for (int c = 0; c < 81; c++) {
            x.note(x.hall.cell(c));
        }
        for (int b = 0; b < 8; b++) {
            x.note(x.hall.bench(b, 0, 4));
        }
        for (int i = 0; i < 36; i++) {
            x.note(x.hall.said(i / 3, i % 3));
        }
        x.note(x.hall.rule(4));
        x.note(x.hall.keep(1 - k));
        return 0;
    }

    private static int askTape(Asking x) {
        x.note(x.hall.count(6));
        x.note(x.hall.text());
        x.note(x.hall.fault());
        return askTold(x);
    }

    private static int askSheet(Asking x, int k) {
        for (int lane = 0; lane < 3; lane++) {
            for (int i = 0; i < 40; i += 3) {
                x.hall.unsay(0);
                x.note(x.hall.read(k, lane, i, 1));
                x.note(x.hall.torn());
                for (int what = 0; what < 3; what++) {
                    x.note(x.hall.said(0, what));
                }
            }
        }
        return 0;
    }
}
