/** Promises 28 and 29: tried, best. */
public final class TriedTest {
    private static final Due due = new Due();

    public static void main(String[] args) {
        triedFromTheBeginning();
        bestOfEqualOnes();
        movedCountsInTheTrial();
        due.end();
    }

    private static void triedFromTheBeginning() {
        MoveInn x = due.inn("room 0 0;room 1 0;room 0 0;guest a trunk 0 bath;guest b trunk 0;guest c trunk 0;"
                + "rule 1;rule here=2;");
        due.is("best() of nobody", x.best(), 0);
        for (int rule = -1; rule < 2; rule++) {
            for (int what = 0; what < 3; what++) {
                due.is("tried(" + rule + ", " + what + ") of nobody", x.tried(rule, what), 0);
            }
        }
        x.come(0, 0);
        due.is("tried(-1, 2) of one", x.tried(-1, 2), 0);
        x.come(1, 0);
        x.come(2, 0);
        // a in 2, b in 1, c in 0: steps 1; 11, 1; 11, 11, 1.
        x.use(1);
        x.leave(2, 0);
        // Rule 0: c out 1, b to 0 by 11, a to 1 by 11. Rule 1: a to 0 by 2.
        due.is("sum(0)", x.sum(0), 36 + 1 + 2);
        due.is("tried(0, 0)", x.tried(0, 0), 36 + 1 + 22);
        due.is("tried(1, 0)", x.tried(1, 0), 36 + 1 + 2);
        due.is("tried(-1, 0)", x.tried(-1, 0), 36 + 1);
        due.is("tried(0, 1)", x.tried(0, 1), 3);
        due.is("tried(1, 1)", x.tried(1, 1), 3);
        due.is("tried(-1, 1)", x.tried(-1, 1), 2);
        due.is("tried(0, 2): a moved 3, b 2, c 0", x.tried(0, 2), 3);
        due.is("tried(-1, 2)", x.tried(-1, 2), 2);
        due.is("best()", x.best(), 1);
        x.use(-1);
        x.use(0);
        due.is("tried(0, 0): the rule in use changes nothing", x.tried(0, 0), 36 + 1 + 22);
        x.leave(1, 0);
        x.leave(0, 0);
        // Rule 0: b out of 0 by 1, a from 1 to 0 by 11, a out by 1. No rule: b out of 1 by 12, a out of 2 by 3.
        due.is("tried(0, 0)", x.tried(0, 0), 59 + 1 + 11 + 1);
        due.is("tried(-1, 0)", x.tried(-1, 0), 37 + 12 + 3);
        due.is("tried(2, 0)", x.tried(2, 0), -1);
        due.is("tried(-2, 0)", x.tried(-2, 0), -1);
        due.is("tried(0, 3)", x.tried(0, 3), -1);
        due.is("tried(0, -1)", x.tried(0, -1), -1);
        due.is("best() of a new object", new MoveInn().best(), -1);
        due.is("tried(0, 0) of a new object", new MoveInn().tried(0, 0), -1);
    }

    private static void bestOfEqualOnes() {
        MoveInn x = due.inn("room 0 0;room 0 0;room 0 0;guest a trunk 0;guest b trunk 0 bath;guest c trunk 0;"
                + "guest d trunk 0;rule bath;rule not bath*here;rule not bath*here;");
        x.come(0, 0);
        x.come(1, 0);
        x.come(2, 0);
        x.leave(2, 0);
        // b goes from 1 to 0 by 1, or a from 2 to 0 by 2.
        due.is("best(): the fewest steps", x.best(), 0);
        x.leave(1, 0);
        // Rule 0: b out of 0 by 1. Rules 1, 2: b out of 1 by 2.
        due.is("tried(0, 0)", x.tried(0, 0), 6 + 1 + 1 + 1);
        due.is("tried(1, 0)", x.tried(1, 0), 6 + 1 + 2 + 2);
        x.leave(0, 0);
        // Rule 0: a out of 2 by 3; rules 1, 2: a out of 0 by 1. So they are equal by 12, but for what is spilt.
        due.is("tried(0, 0)", x.tried(0, 0), 12);
        due.is("tried(1, 0)", x.tried(1, 0), 12);
        due.is("tried(0, 1)", x.tried(0, 1), 2);
        due.is("tried(1, 1)", x.tried(1, 1), 1);
        due.is("best(): the fewest spilt, then the first", x.best(), 1);
    }

    private static void movedCountsInTheTrial() {
        MoveInn x = due.inn("room 0 0;room 0 0;room 0 0;room 0 0;guest a trunk 0;guest b trunk 0;guest c trunk 0;"
                + "rule moved<3;rule 1;");
        x.use(-1);
        x.come(0, 0);
        x.come(1, 0);
        x.come(2, 0);
        x.leave(2, 0);
        x.come(2, 0);
        x.leave(2, 0);
        // Rule 0: b goes to 0 (moved 1), a to 1 (moved 2); c comes again, b to 1 and a to 2: moved 3 and 4.
        due.is("tried(0, 2)", x.tried(0, 2), 4);
        due.is("tried(0, 0)", x.tried(0, 0), 6 + 1 + 2 + 3 + 1);
        due.is("tried(1, 0)", x.tried(1, 0), 6 + 1 + 2 + 3 + 1 + 2);
        due.is("tried(-1, 0)", x.tried(-1, 0), 6 + 1 + 1 + 1);
        due.is("best()", x.best(), 0);
    }
}
