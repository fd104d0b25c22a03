import java.util.ArrayList;
import java.util.List;
import java.util.function.ToLongFunction;

/** "An object is used for at most 512 calls after it has been made": up to the last of them all answers are right. */
public final class LastCallTest {
    private static final int CALLS = 512;
    private static final Due due = new Due();

    private record Call(String name, ToLongFunction<MoveInn> asked) { }

    public static void main(String[] args) {
        theSameAnswerUpToTheLast();
        marksUpToTheLast();
        rulesUpToTheLast();
        signsUpToTheLast();
        innsUpToTheLast();
        bookedUpToTheLast();
        pagesAndJobsUpToTheLast();
        due.end();
    }

    /** Behind the calls that make the object all others are one question, again and again. */
    private static void theSameAnswerUpToTheLast() {
        for (Call call : questions()) {
            MoveInn x = FullInn.made();
            long want = call.asked.applyAsLong(FullInn.made());
            for (int i = FullInn.MADE_BY; i < CALLS; i++) {
                due.is(call.name + ", call " + (i + 1), call.asked.applyAsLong(x), want);
            }
        }
    }

    private static List<Call> questions() {
        List<Call> calls = new ArrayList<>();
        calls.add(new Call("room", x -> x.room(1, 2)));
        calls.add(new Call("guest", x -> x.guest(0, 5)));
        calls.add(new Call("gives", x -> Due.gives(x, 0, 0, 3)));
        calls.add(new Call("gives, thrown", x -> Due.gives(x, 0, 1, 3)));
        calls.add(new Call("come, refused", x -> x.come(0, 50)));
        calls.add(new Call("leave, refused", x -> x.leave(1, 50)));
        calls.add(new Call("over", MoveInn::over));
        calls.add(new Call("sum", x -> x.sum(0)));
        calls.add(new Call("where", x -> x.where(0, 25)));
        calls.add(new Call("who", x -> x.who(0, 45)));
        calls.add(new Call("letter", x -> x.letter(0, 15, 45)));
        calls.add(new Call("trunk", x -> x.trunk(0, 0, 60)));
        calls.add(new Call("could", x -> x.could(0, 31)));
        calls.add(new Call("liars", MoveInn::liars));
        calls.add(new Call("ways", MoveInn::ways));
        calls.add(new Call("sure", x -> x.sure(1)));
        calls.add(new Call("porters", x -> x.porters(2)));
        calls.add(new Call("told", MoveInn::told));
        calls.add(new Call("order", x -> x.order(5, 1)));
        calls.add(new Call("tried", x -> x.tried(2, 0)));
        calls.add(new Call("best", MoveInn::best));
        calls.add(new Call("count", x -> x.count(9)));
        calls.add(new Call("clear", x -> x.clear() ? 1 : 0));
        calls.add(new Call("page", x -> x.page(3, 5)));
        calls.add(new Call("use", x -> x.use(2) ? 1 : 0));
        calls.add(new Call("mark", x -> x.mark(0, false) ? 1 : 0));
        calls.add(new Call("mark, back", x -> x.mark(1, true) ? 1 : 0));
        return calls;
    }

    private static void marksUpToTheLast() {
        MoveInn x = new MoveInn();
        for (int i = 0; i < CALLS; i++) {
            due.is("mark, call " + (i + 1), x.mark(i / 2 % 4, i % 2 == 1), true);
        }
    }

    private static void rulesUpToTheLast() {
        MoveInn x = new MoveInn();
        Due.read(x, "rule 1;rule 2;");
        for (int i = 2; i < CALLS; i += 2) {
            due.is("use, call " + (i + 1), x.use(i / 2 % 3 - 1), true);
            due.is("count(4), call " + (i + 2), x.count(4), i / 2 % 3 - 1);
        }
    }

    private static void signsUpToTheLast() {
        MoveInn x = new MoveInn();
        for (int i = 1; i <= CALLS; i++) {
            due.is("feed, call " + i, x.feed(' ', 0, 0), i);
        }
        x = new MoveInn();
        for (int i = 1; i <= CALLS; i++) {
            due.is("feed of 24, call " + i, Due.feed(x, Due.repeat("#", 24)), Math.min(1000, 24 * i));
        }
    }

    private static void innsUpToTheLast() {
        MoveInn x = new MoveInn();
        for (int i = 0; i + 4 <= CALLS; i += 4) {
            String text = "room " + i / 4 % 10 + " 1;rule 1;";
            due.is("feed, call " + (i + 1), Due.feed(x, text), text.length());
            due.is("inn, call " + (i + 2), x.inn(), 0);
            due.is("room, call " + (i + 3), x.room(0, 0), i / 4 % 10);
            due.is("count, call " + (i + 4), x.count(2), 1);
        }
    }

    private static void bookedUpToTheLast() {
        MoveInn x = new MoveInn();
        Due.read(x, "room 0 0;guest a trunk 0;guest b trunk 0;");
        for (int i = 3; i + 3 <= CALLS; i += 3) {
            due.is("book(1), call " + (i + 1), x.book(1), 1);
            due.is("order(1, 2), call " + (i + 2), x.order(1, 2), 1);
            due.is("book(-1), call " + (i + 3), x.book(-1), 0);
        }
    }

    private static void pagesAndJobsUpToTheLast() {
        MoveInn x = new MoveInn();
        Due.read(x, "room 0 0;room 0 0;guest a trunk 0;guest b trunk 0;");
        for (int i = 4; i + 5 <= CALLS; i += 5) {
            due.is("page, call " + (i + 1), x.page(0, i % 2 + 1), 1);
            due.is("sure, call " + (i + 2), x.sure(0), i % 2);
            due.is("job, call " + (i + 3), x.job(i % 50, 1, 0), 1);
            due.is("told, call " + (i + 4), x.told(), i % 50 + 1);
            due.is("clear, call " + (i + 5), x.clear(), true);
        }
    }
}
