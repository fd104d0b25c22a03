import java.util.function.Consumer;
import java.util.function.Supplier;

/** What an inn that is read leaves behind (nothing), and what a mark holds (all but the tape). */
public final class AnewTest {
    private static final Due due = new Due();
    private static final Seen seen = new Seen();
    private static final String[] TEXTS = {
        "",
        "room 0 0;",
        "guest a trunk 1;",
        "room 0 0;room 0 0;guest a trunk 0;guest b trunk 0;",
        "room 3 1;room 1 0;room 2 1;guest b trunk 50;guest a trunk 4;guest c trunk 9;rule 1;",
        FullInn.TEXT,
    };

    public static void main(String[] args) {
        aNewObjectHasNothing();
        aNewInnIsAsOfANewObject();
        whatHappensInANewInn();
        innsOneBehindTheOther();
        aMarkHoldsAll();
        theSameAgain();
        eachMarkByItself();
        aMarkIsLaidAnew();
        goingBackAgainAndAgain();
        whichMarksThereAre();
        due.end();
    }

    /** "No room, no guest.": as an inn of which nothing was told. */
    private static void aNewObjectHasNothing() {
        seen.same(due, "a new object", MoveInn::new, () -> {
            MoveInn x = new MoveInn();
            x.inn();
            return x;
        });
    }

    /** "all is empty, nobody came, RULE 0 goes, no sighting, page, job, MARK is there". */
    private static void aNewInnIsAsOfANewObject() {
        for (String text : TEXTS) {
            Supplier<MoveInn> fresh = () -> read(new MoveInn(), text);
            seen.same(due, "behind a full inn: " + text, () -> read(allMarks(FullInn.made()), text), fresh);
            seen.same(due, "behind a crowded inn: " + text, () -> read(crowdedWithoutTape(), text), fresh);
        }
    }

    private static MoveInn read(MoveInn x, String text) {
        due.is("inn() of " + text, Due.read(x, text), 0);
        return x;
    }

    private static MoveInn allMarks(MoveInn x) {
        for (int mark = 0; mark < 4; mark++) {
            x.mark(mark, false);
        }
        return x;
    }

    private static MoveInn crowdedWithoutTape() {
        MoveInn x = FullInn.made();
        x.use(-1);
        x.come(8, 52);
        x.come(9, 53);
        return allMarks(x);
    }

    /** All goes on in a new inn as if there had been no other, also for those who came in that one. */
    private static void whatHappensInANewInn() {
        for (String text : TEXTS) {
            seen.same(due, "used behind a full inn: " + text, () -> used(read(crowdedWithoutTape(), text)),
                    () -> used(read(new MoveInn(), text)));
        }
        MoveInn x = used(read(crowdedWithoutTape(), TEXTS[3]));
        due.is("who came moved once each, and others never came", x.tried(-1, 2), 0);
    }

    private static MoveInn used(MoveInn x) {
        x.come(0, 5);
        x.come(1, 6);
        x.leave(0, 7);
        x.come(0, 8);
        x.sight(1, 1, 20);
        x.page(1, 2);
        x.job(1, 2, 3);
        x.book(2);
        x.mark(3, false);
        return x;
    }

    /** Nothing of an inn comes back two inns later, or with a fault between. */
    private static void innsOneBehindTheOther() {
        for (String text : TEXTS) {
            Supplier<MoveInn> fresh = () -> read(new MoveInn(), text);
            seen.same(due, "two inns later: " + text, () -> read(read(FullInn.made(), "room 0 0;"), text), fresh);
            seen.same(due, "behind a fault: " + text, () -> {
                MoveInn x = FullInn.made();
                Due.read(x, "guest e trunk 7 bath ill;guest d trunk 7 bath ill;room 1 1;rule 1;rule 2;#");
                return read(x, text);
            }, fresh);
        }
    }

    private static void changeAll(MoveInn x) {
        x.clear();
        x.sight(3, 3, 3);
        x.job(50, 50, 50);
        x.job(9, 9, 9);
        x.page(0, 0);
        x.page(1, 1);
        x.page(9, 15);
        x.use(2);
        x.come(4, 60);
        x.leave(0, 70);
        x.leave(2, 70);
        x.come(1, 71);
        x.book(-1);
        x.book(0);
        x.book(9);
    }

    /** "MARKS 0 to 3 hold all but the TAPE, as it is". */
    private static void aMarkHoldsAll() {
        for (int mark = 0; mark < 4; mark++) {
            int laid = mark;
            held("changed behind mark " + mark, laid, AnewTest::changeAll);
            held("cleared behind mark " + mark, laid, x -> x.clear());
            held("a rule used behind mark " + mark, laid, x -> x.use(-1));
            held("come behind mark " + mark, laid, x -> x.come(4, 99999));
            held("left behind mark " + mark, laid, x -> x.leave(2, 50));
            held("booked behind mark " + mark, laid, x -> x.book(-1));
            held("paged behind mark " + mark, laid, x -> x.page(0, 8));
        }
    }

    private static void held(String text, int mark, Consumer<MoveInn> change) {
        Supplier<MoveInn> laid = () -> {
            MoveInn x = FullInn.made();
            due.is("mark(" + mark + ", false)", x.mark(mark, false), true);
            return x;
        };
        seen.same(due, text, () -> {
            MoveInn x = laid.get();
            change.accept(x);
            due.is("mark(" + mark + ", true)", x.mark(mark, true), true);
            return x;
        }, laid);
        seen.same(due, text + ", the tape stays", () -> {
            MoveInn x = laid.get();
            Due.feed(x, "room 9 1;room 8");
            x.mark(mark, true);
            return x;
        }, () -> {
            MoveInn x = laid.get();
            Due.feed(x, "room 9 1;room 8");
            return x;
        });
    }

    /** What is done behind a mark comes out the same when it is done again from there. */
    private static void theSameAgain() {
        seen.same(due, "the same again", () -> {
            MoveInn x = FullInn.made();
            x.mark(0, false);
            changeAll(x);
            x.leave(1, 90);
            x.mark(0, true);
            changeAll(x);
            return x;
        }, () -> {
            MoveInn x = FullInn.made();
            x.mark(0, false);
            changeAll(x);
            return x;
        });
    }

    private static void eachMarkByItself() {
        for (int back = 0; back < 4; back++) {
            MoveInn x = new MoveInn();
            Due.read(x, FullInn.TEXT);
            for (int mark = 0; mark < 4; mark++) {
                x.come(mark, 10 * mark);
                due.is("mark(" + mark + ", false)", x.mark(mark, false), true);
            }
            due.is("mark(" + back + ", true)", x.mark(back, true), true);
            due.is("count(3)", x.count(3), back + 1);
            due.is("the minutes go on from there: one less", x.leave(0, 10 * back - 1), 2);
            due.is("the minutes go on from there", x.leave(0, 10 * back), 0);
        }
    }

    private static void aMarkIsLaidAnew() {
        MoveInn x = new MoveInn();
        Due.read(x, FullInn.TEXT);
        x.come(0, 0);
        x.mark(2, false);
        x.come(1, 5);
        x.mark(2, false);
        x.leave(0, 5);
        due.is("mark(2, true)", x.mark(2, true), true);
        due.is("count(3)", x.count(3), 2);
        due.is("count(9)", x.count(9), 2);
    }

    private static void goingBackAgainAndAgain() {
        MoveInn x = FullInn.made();
        x.mark(0, false);
        int over = x.over();
        int steps = x.sum(0);
        for (int i = 0; i < 20; i++) {
            changeAll(x);
            due.is("mark(0, true)", x.mark(0, true), true);
            due.is("over()", x.over(), over);
            due.is("sum(0)", x.sum(0), steps);
            due.is("count(9)", x.count(9), 4);
        }
    }

    /** "false: none such, nothing is on it (back)". */
    private static void whichMarksThereAre() {
        for (int mark : new int[] {Integer.MIN_VALUE, -2, -1, 0, 1, 2, 3, 4, 5, 32, Integer.MAX_VALUE}) {
            MoveInn x = new MoveInn();
            boolean right = mark >= 0 && mark <= 3;
            due.is("mark(" + mark + ", true): nothing is on it", x.mark(mark, true), false);
            due.is("mark(" + mark + ", false)", x.mark(mark, false), right);
            due.is("mark(" + mark + ", true)", x.mark(mark, true), right);
            for (int other = 0; other < 4; other++) {
                due.is("mark(" + other + ", true)", x.mark(other, true), other == mark);
            }
            due.is("inn()", x.inn(), 0);
            due.is("no mark is in a new inn", x.mark(mark, true), false);
        }
        for (int what : new int[] {Integer.MIN_VALUE, -2, -1, 11, 12, 100, Integer.MAX_VALUE}) {
            due.is("count(" + what + ")", FullInn.made().count(what), -1);
            due.is("count(" + what + ") of a new object", new MoveInn().count(what), -1);
        }
    }
}
