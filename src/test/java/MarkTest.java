/** Promises 30 and 31: mark, count. */
public final class MarkTest {
    private static final Due due = new Due();

    public static void main(String[] args) {
        wrongMarks();
        fourMarks();
        twoWays();
        whoEverCame();
        counts();
        due.end();
    }

    private static void wrongMarks() {
        MoveInn x = new MoveInn();
        due.is("mark(-1, false)", x.mark(-1, false), false);
        due.is("mark(4, false)", x.mark(4, false), false);
        due.is("mark(4, true)", x.mark(4, true), false);
        for (int mark = 0; mark < 4; mark++) {
            due.is("mark(" + mark + ", true), nothing is on it", x.mark(mark, true), false);
        }
        due.is("mark(3, false)", x.mark(3, false), true);
        due.is("mark(3, true)", x.mark(3, true), true);
        due.is("mark(3, true), again", x.mark(3, true), true);
        due.is("mark(2, true)", x.mark(2, true), false);
        due.is("inn() of nothing", x.inn(), 0);
        for (int mark = 0; mark < 4; mark++) {
            due.is("mark(" + mark + ", true): no mark is in a new inn", x.mark(mark, true), false);
        }
    }

    private static void fourMarks() {
        MoveInn x = due.inn("room 0 0;room 0 0;room 0 0;room 0 0;"
                + "guest a trunk 0;guest b trunk 0;guest c trunk 0;guest d trunk 0;");
        for (int mark = 0; mark < 4; mark++) {
            x.come(mark, mark);
            x.mark(mark, false);
        }
        int[] turn = {2, 0, 3, 1, 1};
        for (int mark : turn) {
            x.mark(mark, true);
            due.is("count(3) at " + mark, x.count(3), mark + 1);
        }
        x.mark(3, false);
        x.mark(0, true);
        due.is("count(3)", x.count(3), 1);
        x.mark(3, true);
        due.is("count(3): laid anew", x.count(3), 2);
    }

    /** From one mark on things go in two ways; going to and fro mixes nothing up. */
    private static void twoWays() {
        MoveInn x = due.inn("room 0 0;room 0 0;room 0 0;guest a trunk 0;guest b trunk 0;guest c trunk 50;");
        x.come(0, 10);
        x.mark(0, false);
        x.come(1, 20);
        x.sight(1, 1, 20);
        x.job(1, 2, 3);
        x.page(1, 1);
        x.mark(1, false);
        x.mark(0, true);
        x.come(2, 30);
        x.sight(2, 2, 30);
        x.job(9, 8, 7);
        x.page(1, 6);
        x.mark(2, false);
        x.mark(1, true);
        due.is("where(0, 21)", x.where(0, 21), 1);
        due.is("where(1, 22)", x.where(1, 22), 0);
        due.is("where(2, 99)", x.where(2, 99), -1);
        due.is("could(0, 20)", x.could(0, 20), 5);
        due.is("could(1, 20)", x.could(1, 20), 7);
        due.is("told()", x.told(), 6);
        due.is("ways()", x.ways(), 1);
        x.mark(2, true);
        due.is("where(0, 30)", x.where(0, 30), -2);
        due.is("where(1, 22)", x.where(1, 22), -1);
        due.is("where(2, 36)", x.where(2, 36), -2);
        due.is("where(2, 37)", x.where(2, 37), 0);
        due.is("could(0, 30)", x.could(0, 30), 3);
        due.is("could(2, 30)", x.could(2, 30), 7);
        due.is("told()", x.told(), 24);
        due.is("ways()", x.ways(), 2);
    }

    private static void whoEverCame() {
        MoveInn x = due.inn("room 0 0;room 0 0;room 0 0;guest a trunk 0;guest b trunk 0;guest c trunk 0;");
        x.come(0, 0);
        x.come(1, 0);
        x.leave(0, 0);
        x.come(0, 0);
        due.is("tried(-1, 2): both moved once", x.tried(-1, 2), 0);
        x.mark(0, false);
        x.come(2, 0);
        due.is("tried(-1, 2): c never did", x.tried(-1, 2), 2);
        x.mark(0, true);
        due.is("tried(-1, 2): c never came", x.tried(-1, 2), 0);
    }

    private static void counts() {
        MoveInn x = due.inn("room 0 0;room 0 0;room 0 0;room 0 0;guest a trunk 0;guest b trunk 0;guest c trunk 0;"
                + "guest d trunk 0;guest e trunk 0;rule 1;rule 2;rule 3;");
        x.come(0, 0);
        x.come(1, 0);
        x.come(2, 0);
        x.leave(1, 0);
        x.use(2);
        for (int i = 0; i < 6; i++) {
            x.sight(0, 0, 0);
            x.job(0, 1, 0);
        }
        x.job(0, 1, 0);
        x.page(0, 1);
        x.page(1, 1);
        x.page(2, 1);
        x.book(3);
        Due.feed(x, "rule 1;");
        int[] want = {4, 5, 3, 2, 2, 6, 3, 7, 1, 4, 7};
        for (int what = 0; what < want.length; what++) {
            due.is("count(" + what + ")", x.count(what), want[what]);
        }
        due.is("count(11)", x.count(11), -1);
        due.is("count(-1)", x.count(-1), -1);
        due.is("count(MIN)", x.count(Integer.MIN_VALUE), -1);
    }
}
