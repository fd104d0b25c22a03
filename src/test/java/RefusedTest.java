import java.util.function.Supplier;
import java.util.function.ToLongFunction;

/** Each call that is refused answers what the document names, and nothing has changed by it; asking changes nothing. */
public final class RefusedTest {
    private static final Due due = new Due();
    private static final Seen seen = new Seen();
    private static final int[] WRONG = {Integer.MIN_VALUE, 10, Integer.MAX_VALUE};

    public static void main(String[] args) {
        objectsAreAsMeant();
        comingAndLeaving();
        crowdedOrHundred();
        rulesAndMarks();
        wrongSightingsPagesAndJobs();
        wrongBookings();
        oneMoreThanThereMayBe();
        signsThatAreNone();
        faults();
        asking();
        askingOfMinutes();
        askingOfPlans();
        due.end();
    }

    private static void refused(String call, Supplier<MoveInn> made, ToLongFunction<MoveInn> asked, long want) {
        due.is(call, asked.applyAsLong(made.get()), want);
        seen.same(due, "behind " + call, () -> {
            MoveInn x = made.get();
            asked.applyAsLong(x);
            return x;
        }, made);
    }

    private static void refused(String call, ToLongFunction<MoveInn> asked, long want) {
        refused(call, FullInn::withTape, asked, want);
    }

    private static void only(String call, ToLongFunction<MoveInn> asked) {
        refused(call, asked, asked.applyAsLong(FullInn.withTape()));
    }

    private static void objectsAreAsMeant() {
        int[][] counts = {
            {4, 10, 3, 2, 1, 4, 3, 3, 2, 4, 6},
            {4, 10, 3, 4, 1, 4, 3, 3, 2, 6, 6},
            {4, 10, 3, 2, 1, 4, 3, 3, 2, 100, 6},
            {4, 10, 3, 2, 1, 20, 3, 7, 7, 4, 1000},
        };
        for (int what = 0; what <= 10; what++) {
            due.is("count(" + what + ")", FullInn.withTape().count(what), counts[0][what]);
            due.is("crowded: count(" + what + ")", FullInn.crowded().count(what), counts[1][what]);
            due.is("hundred: count(" + what + ")", FullInn.hundred().count(what), counts[2][what]);
            due.is("filled: count(" + what + ")", FullInn.filled().count(what), counts[3][what]);
        }
    }

    private static void comingAndLeaving() {
        for (int guest : new int[] {-1, 10, Integer.MIN_VALUE, Integer.MAX_VALUE}) {
            refused("come(" + guest + ", 60)", x -> x.come(guest, 60), 1);
            refused("leave(" + guest + ", 60)", x -> x.leave(guest, 60), 1);
        }
        for (int minute : new int[] {-1, 0, 49, 100000, Integer.MIN_VALUE, Integer.MAX_VALUE}) {
            refused("come(4, " + minute + ")", x -> x.come(4, minute), 2);
            refused("leave(0, " + minute + ")", x -> x.leave(0, minute), 2);
        }
        for (int minute : new int[] {50, 60, 99999}) {
            refused("come(0, " + minute + "): is in", x -> x.come(0, minute), 3);
            refused("leave(1, " + minute + "): has left", x -> x.leave(1, minute), 3);
            refused("leave(3, " + minute + "): never came", x -> x.leave(3, minute), 3);
        }
    }

    private static void crowdedOrHundred() {
        refused("come(3, 60): no room is empty", FullInn::crowded, x -> x.come(3, 60), 4);
        refused("come(1, 99999): no room is empty", FullInn::crowded, x -> x.come(1, 99999), 4);
        refused("come(3, 60), the 101st", FullInn::hundred, x -> x.come(3, 60), 5);
        refused("leave(0, 60), the 101st", FullInn::hundred, x -> x.leave(0, 60), 5);
    }

    private static void rulesAndMarks() {
        for (int rule : new int[] {-2, 3, Integer.MIN_VALUE, Integer.MAX_VALUE}) {
            refused("use(" + rule + ")", x -> x.use(rule) ? 1 : 0, 0);
            refused("tried(" + rule + ", 0)", x -> x.tried(rule, 0), -1);
        }
        for (int mark : new int[] {-1, 4, Integer.MIN_VALUE, Integer.MAX_VALUE}) {
            refused("mark(" + mark + ", false)", x -> x.mark(mark, false) ? 1 : 0, 0);
            refused("mark(" + mark + ", true)", x -> x.mark(mark, true) ? 1 : 0, 0);
        }
        refused("mark(0, true): nothing is on it", x -> x.mark(0, true) ? 1 : 0, 0);
        refused("mark(3, true): nothing is on it", x -> x.mark(3, true) ? 1 : 0, 0);
        refused("gives(0, 1, 0): is out", x -> Due.gives(x, 0, 1, 0), Due.THROWS);
        refused("gives(3, 0, 0): no rule", x -> Due.gives(x, 3, 0, 0), Due.THROWS);
        refused("gives(0, 0, 4): no room", x -> Due.gives(x, 0, 0, 4), Due.THROWS);
        refused("gives(0, 10, 0): no guest", x -> Due.gives(x, 0, 10, 0), Due.THROWS);
        refused("gives(0, 0, where a is)", x -> Due.gives(x, 0, 0, x.guest(0, 3)), Due.THROWS);
    }

    private static void wrongSightingsPagesAndJobs() {
        for (int wrong : new int[] {-1, 10, 100000}) {
            refused("sight(" + wrong + ", 0, 5)", x -> x.sight(wrong, 0, 5), -1);
            refused("sight(0, " + wrong + ", 5)", x -> x.sight(0, wrong, 5), -1);
            refused("page(" + wrong + ", 1)", x -> x.page(wrong, 1), -1);
            refused("page(" + wrong + ", 0)", x -> x.page(wrong, 0), -1);
        }
        refused("sight(0, 4, 5)", x -> x.sight(0, 4, 5), -1);
        refused("sight(0, 0, -1)", x -> x.sight(0, 0, -1), -1);
        refused("sight(0, 0, 100000)", x -> x.sight(0, 0, 100000), -1);
        for (int set : new int[] {16, 17, 31, -1, Integer.MIN_VALUE, Integer.MAX_VALUE}) {
            refused("page(0, " + set + ")", x -> x.page(0, set), -1);
        }
        for (int wrong : new int[] {-1, 100, Integer.MIN_VALUE, Integer.MAX_VALUE}) {
            refused("job(" + wrong + ", 1, 0)", x -> x.job(wrong, 1, 0), -1);
            refused("job(0, " + wrong + ", 0)", x -> x.job(0, wrong, 0), -1);
            refused("job(0, 1, " + wrong + ")", x -> x.job(0, 1, wrong), -1);
        }
        refused("job(0, 0, 0)", x -> x.job(0, 0, 0), -1);
    }

    private static void wrongBookings() {
        refused("book(0): is in", x -> x.book(0), -1);
        refused("book(3): is booked", x -> x.book(3), -1);
        refused("book(10)", x -> x.book(10), -1);
        refused("book(MAX)", x -> x.book(Integer.MAX_VALUE), -1);
    }

    private static void oneMoreThanThereMayBe() {
        refused("sight, the 21st", FullInn::filled, x -> x.sight(0, 0, 5), -1);
        refused("job, the 8th", FullInn::filled, x -> x.job(1, 1, 1), -1);
        refused("book, the 8th", FullInn::filled, x -> x.book(1), -1);
        refused("feed, the 1,001st", FullInn::filled, x -> x.feed(Due.eight("########", 0), -1, '#'), 1000);
    }

    private static void signsThatAreNone() {
        refused("feed of nothing", x -> x.feed(0, 0, 0), 6);
        refused("feed of others", x -> x.feed(0x0102_0304_0506_0708L, 0x090B_0C0D_0E0F_1011L, 0x7F80_81A0_C0FE_FF1FL),
                6);
    }

    /** "0, or its FAULT (all stays then)": all but the tape, which is empty. */
    private static void faults() {
        String[] texts = {"x", "room", "room 3", "room 10", "room 1 1;guest z trunk 9;rule 1;#",
            "guest a trunk 1;guest a", "guest q trunk 5 bath ill bath", Due.repeat("room 0 0;", 10) + "room",
            "rule 1;rule 1;rule 1;rule 1;rule", "room 1 1;rule not not not not not 1;"};
        int[] want = {1, 1 + 16 * 4, 1 + 16 * 6, 4 + 16 * 5, 1 + 16 * 32, 3 + 16 * 22, 3 + 16 * 25, 5 + 16 * 90,
            5 + 16 * 28, 5 + 16 * 34};
        for (int i = 0; i < texts.length; i++) {
            String text = texts[i];
            refused("inn() of " + text, FullInn::made, x -> Due.read(x, text), want[i]);
        }
    }

    private static void asking() {
        for (int what = -1; what <= 11; what++) {
            int asked = what;
            only("count(" + what + ")", x -> x.count(asked));
            only("sum(" + what + ")", x -> x.sum(asked));
            only("room(2, " + what + ")", x -> x.room(2, asked));
            only("guest(2, " + what + ")", x -> x.guest(2, asked));
            only("porters(" + what + ")", x -> x.porters(asked));
        }
        for (int wrong : WRONG) {
            refused("room(" + wrong + ", 0)", x -> x.room(wrong, 0), -1);
            refused("guest(" + wrong + ", 0)", x -> x.guest(wrong, 0), -1);
        }
        only("over()", MoveInn::over);
        only("gives(0, 0, 3)", x -> Due.gives(x, 0, 0, 3));
    }

    private static void askingOfMinutes() {
        for (int minute : new int[] {-1, 0, 13, 55, 999999, 1000000}) {
            only("where(0, " + minute + ")", x -> x.where(0, minute));
            only("who(1, " + minute + ")", x -> x.who(1, minute));
            only("letter(0, " + minute + ", 60)", x -> x.letter(0, minute, 60));
            only("trunk(0, 0, " + minute + ")", x -> x.trunk(0, 0, minute));
            only("could(1, " + minute + ")", x -> x.could(1, minute));
        }
        refused("where(10, 0)", x -> x.where(10, 0), -3);
        refused("trunk(0, 5, 4)", x -> x.trunk(0, 5, 4), -1);
        refused("letter(0, 12, 11)", x -> x.letter(0, 12, 11), -1);
        only("liars()", MoveInn::liars);
        only("told()", MoveInn::told);
    }

    private static void askingOfPlans() {
        for (int guest = 0; guest <= 10; guest++) {
            int asked = guest;
            only("order(" + guest + ", 0)", x -> x.order(asked, 0));
            only("order(" + guest + ", 2)", x -> x.order(asked, 2));
            only("sure(" + guest + ")", x -> x.sure(asked));
        }
        for (int rule = -1; rule < 3; rule++) {
            int asked = rule;
            only("tried(" + rule + ", 2)", x -> x.tried(asked, 2));
        }
        only("tried(0, 3)", x -> x.tried(0, 3));
        only("ways()", MoveInn::ways);
        only("best()", MoveInn::best);
    }
}
