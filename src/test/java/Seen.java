import java.util.ArrayList;
import java.util.List;
import java.util.function.Supplier;
import java.util.function.ToLongFunction;

/**
 * All that can be asked of an object, so that two of them can be compared: what the calls answer that change nothing
 * and, by calls on an object of its own each, what only shows later (the last minute told, marks, the tape).
 */
final class Seen {
    /** So many questions to one object, which has to be made by at most 212 calls: nothing is promised behind 512. */
    private static final int ASKED_OF_ONE = 300;
    private static final int[] MINUTES = {0, 9, 10, 11, 15, 19, 20, 21, 23, 25, 29, 30, 33, 35, 39, 40, 49, 50, 51, 53,
        55, 59, 60, 61, 70, 999999};

    private record Question(String name, ToLongFunction<MoveInn> call) { }

    private final List<Question> questions = new ArrayList<>();
    private final List<Question> probes = new ArrayList<>();

    Seen() {
        askRoomsAndGuests();
        askMinutes();
        askRecords();
        askPlans();
        probeMinutes();
        probeMarks();
        probeTapeAndBooked();
    }

    /** Asks both the same; each maker makes the same object again whenever it is called. */
    void same(Due due, String text, Supplier<MoveInn> one, Supplier<MoveInn> other) {
        for (int from = 0; from < questions.size(); from += ASKED_OF_ONE) {
            MoveInn x = one.get();
            MoveInn y = other.get();
            for (int i = from; i < Math.min(questions.size(), from + ASKED_OF_ONE); i++) {
                Question asked = questions.get(i);
                due.is(text + ": " + asked.name, asked.call.applyAsLong(x), asked.call.applyAsLong(y));
            }
        }
        for (Question probe : probes) {
            due.is(text + ": " + probe.name, probe.call.applyAsLong(one.get()), probe.call.applyAsLong(other.get()));
        }
    }

    private void ask(String name, ToLongFunction<MoveInn> call) {
        questions.add(new Question(name, call));
    }

    private void probe(String name, ToLongFunction<MoveInn> call) {
        probes.add(new Question(name, call));
    }

    private void askRoomsAndGuests() {
        for (int what = 0; what <= 10; what++) {
            int asked = what;
            ask("count(" + what + ")", x -> x.count(asked));
        }
        for (int i = 0; i < 11; i++) {
            int number = i;
            for (int what = 0; what < 6; what++) {
                int asked = what;
                ask("room(" + i + ", " + what + ")", x -> x.room(number, asked));
                ask("guest(" + i + ", " + what + ")", x -> x.guest(number, asked));
            }
        }
        for (int rule = 0; rule < 5; rule++) {
            for (int guest = 0; guest < 6; guest++) {
                for (int gap = 0; gap < 4; gap++) {
                    int[] asked = {rule, guest, gap};
                    ask("gives(" + rule + ", " + guest + ", " + gap + ")",
                            x -> Due.gives(x, asked[0], asked[1], asked[2]));
                }
            }
        }
        for (int what = 0; what < 4; what++) {
            int asked = what;
            ask("sum(" + what + ")", x -> x.sum(asked));
        }
        ask("over()", MoveInn::over);
    }

    private void askMinutes() {
        for (int i = 0; i < 6; i++) {
            int number = i;
            for (int minute : MINUTES) {
                ask("where(" + i + ", " + minute + ")", x -> x.where(number, minute));
                ask("who(" + i + ", " + minute + ")", x -> x.who(number, minute));
                ask("letter(" + i + ", " + minute + ", +10)", x -> x.letter(number, minute, minute + 10));
                ask("trunk(" + i + ", 0, " + minute + ")", x -> x.trunk(number, 0, minute));
                ask("trunk(" + i + ", " + minute + ", 999999)", x -> x.trunk(number, minute, 999999));
            }
        }
    }

    private void askRecords() {
        for (int i = 0; i < 11; i++) {
            int number = i;
            for (int minute = 0; minute < 60; minute += 7) {
                int asked = minute;
                ask("could(" + i + ", " + minute + ")", x -> x.could(number, asked));
            }
            ask("sure(" + i + ")", x -> x.sure(number));
            ask("porters(" + i + ")", x -> x.porters(number));
        }
        ask("liars()", MoveInn::liars);
        ask("ways()", MoveInn::ways);
        ask("told()", MoveInn::told);
    }

    private void askPlans() {
        for (int guest = 0; guest < 10; guest++) {
            for (int what = 0; what < 9; what++) {
                int[] asked = {guest, what};
                ask("order(" + guest + ", " + what + ")", x -> x.order(asked[0], asked[1]));
            }
        }
        for (int rule = -1; rule < 5; rule++) {
            for (int what = 0; what < 3; what++) {
                int[] asked = {rule, what};
                ask("tried(" + rule + ", " + what + ")", x -> x.tried(asked[0], asked[1]));
            }
        }
        ask("best()", MoveInn::best);
    }

    /** Whoever is in leaves, and whoever is out comes: from which minute on, and what then is. */
    private void probeMinutes() {
        for (int i = 0; i < 6; i++) {
            int guest = i;
            for (int minute : MINUTES) {
                probe("come or leave, " + i + " at " + minute, x -> x.come(guest, minute) * 100L
                        + x.leave(guest, minute) * 10L + x.over() * 1000L + x.sum(0));
            }
        }
    }

    private void probeMarks() {
        for (int i = 0; i < 4; i++) {
            int mark = i;
            probe("back to " + i, x -> {
                long seen = x.mark(mark, true) ? 1 : 0;
                for (int what = 0; what <= 10; what++) {
                    seen = seen * 31 + x.count(what);
                }
                for (int what = 0; what < 4; what++) {
                    seen = seen * 31 + x.sum(what) + x.room(what, 2);
                }
                seen = seen * 31 + x.over() + x.liars() * 7 + x.ways() * 11 + x.told() * 13;
                return seen * 31 + x.tried(-1, 0) + x.tried(0, 0) * 7 + x.where(0, 30) * 11 + x.could(0, 20) * 13;
            });
        }
    }

    private void probeTapeAndBooked() {
        probe("what the tape is read as", x -> {
            Due.feed(x, " 1;");
            return x.inn() * 1000L + x.count(0) * 100 + x.room(0, 0);
        });
        for (int i = 0; i < 10; i++) {
            int guest = i;
            probe("book(" + i + ")", x -> x.book(guest));
        }
        probe("a sighting, a job and a page more", x -> {
            long seen = x.sight(0, 1, 33) * 100L + x.job(3, 4, 5) * 10 + x.page(0, 7);
            return seen * 10000 + x.liars() * 1000 + x.ways() * 100 + x.porters(0) + x.could(1, 34) * 7;
        });
    }
}
