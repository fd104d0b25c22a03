import java.util.ArrayList;
import java.util.List;

/** Promises 26 to 29 at their bounds: who is booked, in which order they come, which rule was the best one. */
public final class PlansBoundsTest {
    private static final Due due = new Due();

    public static void main(String[] args) {
        whoMayBeBooked();
        theSeventh();
        whoComesIsNotBookedAnyMore();
        nobodyIsBookedAnyMore();
        asManyAsRoomsAreEmpty();
        whoseOrder();
        whatIsAskedOfAnOrder();
        ordersAgainstAll();
        whatIsTried();
        ofThoseWhoEverCame();
        theRuleFromTheBeginningOn();
        bestOfAll();
        due.end();
    }

    private static MoveInn made(int rooms, int guests, String baths, String rules) {
        StringBuilder inn = new StringBuilder(Due.repeat("room 0 0;", rooms));
        for (int guest = 0; guest < guests; guest++) {
            char name = (char) ('a' + guest);
            inn.append("guest ").append(name).append(" trunk ").append(guest)
                    .append(baths.indexOf(name) >= 0 ? " bath;" : ";");
        }
        return due.inn(inn + rules);
    }

    /** "NONE: others, is in, BOOKED already". */
    private static void whoMayBeBooked() {
        MoveInn x = made(3, 3, "", "");
        x.come(1, 0);
        for (int guest : new int[] {3, 4, 10, 31, 32, 33, Integer.MAX_VALUE}) {
            due.is("book(" + guest + ")", x.book(guest), -1);
        }
        due.is("book(1): is in", x.book(1), -1);
        due.is("count(8)", x.count(8), 0);
        due.is("book(0)", x.book(0), 1);
        due.is("book(0): already", x.book(0), -1);
        due.is("count(8)", x.count(8), 1);
        due.is("book(2)", x.book(2), 2);
        due.is("book(2): already", x.book(2), -1);
        x.leave(1, 0);
        due.is("book(1): has left", x.book(1), 3);
        due.is("book(0) of a new object", new MoveInn().book(0), -1);
        due.is("book(0) without rooms", made(0, 1, "", "").book(0), 1);
    }

    /** "7 at most"; "7 are there". */
    private static void theSeventh() {
        MoveInn x = made(10, 10, "", "");
        for (int guest = 9; guest >= 3; guest--) {
            due.is("book(" + guest + ")", x.book(guest), 10 - guest);
        }
        for (int guest = 0; guest < 10; guest++) {
            due.is("book(" + guest + "): 7 are there", x.book(guest), -1);
        }
        due.is("count(8)", x.count(8), 7);
        due.is("order(9, 8): the last of seven", x.order(9, 8), 9);
        due.is("order(9, 9)", x.order(9, 9), -1);
        due.is("order(0, 0): was not booked", x.order(0, 0), -1);
    }

    /** "(one who COMES is not BOOKED any more)". */
    private static void whoComesIsNotBookedAnyMore() {
        for (int coming = 0; coming < 4; coming++) {
            MoveInn x = made(4, 4, "", "");
            for (int guest = 0; guest < 4; guest++) {
                x.book(guest);
            }
            due.is("a refused one stays booked", x.come(coming, -1), 2);
            due.is("count(8)", x.count(8), 4);
            due.is("come(" + coming + ", 0)", x.come(coming, 0), 0);
            due.is("count(8)", x.count(8), 3);
            List<Integer> left = new ArrayList<>(List.of(0, 1, 2, 3));
            left.remove((Integer) coming);
            for (int i = 0; i < 3; i++) {
                due.is("order(" + coming + ", " + (2 + i) + ")", x.order(coming, 2 + i), left.get(i));
            }
            x.leave(coming, 0);
            due.is("leaving books nobody", x.count(8), 3);
            due.is("booked again", x.book(coming), 4);
        }
    }

    /** "A guest below 0: nobody is BOOKED any more (0)". */
    private static void nobodyIsBookedAnyMore() {
        for (int below : new int[] {-1, -2, -1000000, Integer.MIN_VALUE}) {
            MoveInn x = made(2, 2, "", "");
            x.book(0);
            x.book(1);
            due.is("book(" + below + ")", x.book(below), 0);
            due.is("count(8)", x.count(8), 0);
            due.is("book(" + below + ") of nobody", x.book(below), 0);
            due.is("order(0, 0)", x.order(0, 0), -1);
            due.is("book(1)", x.book(1), 1);
            due.is("book(" + below + ") of a new object", new MoveInn().book(below), 0);
        }
    }

    /** "(as many as rooms are empty, or fewer)"; "NONE: .. nobody BOOKED, more than rooms are empty". */
    private static void asManyAsRoomsAreEmpty() {
        for (int rooms = 0; rooms <= 5; rooms++) {
            for (int in = 0; in <= rooms && in < 5; in++) {
                MoveInn x = made(rooms, 9, "", "");
                for (int guest = 0; guest < in; guest++) {
                    x.come(guest, 0);
                }
                for (int booked = 0; booked <= 4; booked++) {
                    boolean right = booked > 0 && booked <= rooms - in;
                    String text = " with " + booked + " booked, " + in + " of " + rooms + " rooms full";
                    due.is("order(5, 0)" + text, x.order(5, 0), right ? 0 : -1);
                    due.is("order(5, 2)" + text, x.order(5, 2), !right ? -1 : booked == 1 ? 5 : 6);
                    due.is("order(0, 0)" + text, x.order(0, 0), right && in > 0 ? booked : -1);
                    x.book(5 + booked);
                }
            }
        }
    }

    /** "that guest (in, or BOOKED)"; "neither in nor BOOKED". */
    private static void whoseOrder() {
        MoveInn x = made(4, 5, "", "");
        x.come(0, 0);
        x.come(1, 0);
        x.leave(1, 0);
        x.book(2);
        for (int guest : new int[] {Integer.MIN_VALUE, -2, -1, 1, 3, 4, 5, 6, 32, Integer.MAX_VALUE}) {
            for (int what = 0; what < 3; what++) {
                due.is("order(" + guest + ", " + what + ")", x.order(guest, what), -1);
            }
        }
        due.is("order(0, 2): in", x.order(0, 2), 2);
        due.is("order(2, 2): booked", x.order(2, 2), 2);
    }

    private static void whatIsAskedOfAnOrder() {
        MoveInn x = made(4, 4, "ab", "");
        x.book(0);
        x.book(1);
        x.book(2);
        for (int what : new int[] {Integer.MIN_VALUE, -2, -1, 5, 6, 10, 34, Integer.MAX_VALUE}) {
            due.is("order(0, " + what + ")", x.order(0, what), -1);
        }
        int[] want = {0, 1, 2, 1, 0};
        for (int what = 0; what < want.length; what++) {
            due.is("order(0, " + what + ")", x.order(0, what), want[what]);
        }
    }

    /** Inns with all sorts of gaps, guests in and booked, each order told by trying all, as the document says it. */
    private static void ordersAgainstAll() {
        for (int kind = 0; kind < 64; kind++) {
            String inn = Due.repeat("room 0 0;", 6) + "guest a trunk 0 bath;guest b trunk 0;guest c trunk 0"
                    + ((kind & 1) == 0 ? ";" : " bath;") + "guest d trunk 0;guest e trunk 0 bath;guest f trunk 0"
                    + ((kind & 2) == 0 ? ";" : " bath;") + "guest g trunk 0 bath;";
            MoveInn x = due.inn(inn);
            PlainInn plain = new PlainInn();
            for (int at = 0; at < inn.length(); at += 24) {
                plain.feed(Due.eight(inn, at), Due.eight(inn, at + 8), Due.eight(inn, at + 16));
            }
            due.is("the plain one reads it, too", plain.inn(), 0);
            for (int guest = 0; guest < 4; guest++) {
                due.is("come(" + guest + ", 0)", x.come(guest, 0), plain.come(guest, 0));
            }
            for (int guest = 0; guest < 4; guest++) {
                if ((kind >> 2 + guest & 1) == 1) {
                    due.is("leave(" + guest + ", 0)", x.leave(guest, 0), plain.leave(guest, 0));
                }
            }
            for (int guest = 6; guest >= 0 && x.count(8) < 6 - x.count(3) && x.count(8) < 4; guest--) {
                due.is("book(" + guest + ")", x.book(guest), plain.book(guest));
            }
            for (int guest = 0; guest < 7; guest++) {
                for (int what = 0; what < 6; what++) {
                    due.is("order(" + guest + ", " + what + ") of kind " + kind, x.order(guest, what),
                            plain.order(guest, what));
                }
            }
        }
    }

    /** "a rule (or NONE)"; "what 0: STEPS, 1: SPILT, 2: the difference; NONE: others". */
    private static void whatIsTried() {
        for (int rules = 0; rules <= 4; rules++) {
            MoveInn x = made(2, 2, "a", Due.repeat("rule 1;", rules));
            for (int step = 0; step < 3; step++) {
                // Nobody; a and b came, a by one move; b left, and by a rule a moved back.
                int[] byRule = step == 0 ? new int[] {0, 0, 0} : step == 1 ? new int[] {3, 1, 1} : new int[] {5, 2, 2};
                int[] byNone = step < 2 ? byRule : new int[] {4, 1, 1};
                for (int rule : new int[] {Integer.MIN_VALUE, -2, -1, 0, 1, 2, 3, 4, 5, Integer.MAX_VALUE}) {
                    for (int what : new int[] {Integer.MIN_VALUE, -1, 0, 1, 2, 3, 4, Integer.MAX_VALUE}) {
                        boolean right = rule >= -1 && rule < rules && what >= 0 && what < 3;
                        int want = !right ? -1 : rule == -1 ? byNone[what] : byRule[what];
                        due.is("tried(" + rule + ", " + what + ") at " + step, x.tried(rule, what), want);
                    }
                }
                if (step == 0) {
                    x.come(0, 0);
                    x.come(1, 0);
                } else {
                    x.leave(1, 0);
                }
            }
        }
    }

    /** "the most MOVES of a guest less the fewest (of those who ever came in; 0 if nobody did)". */
    private static void ofThoseWhoEverCame() {
        MoveInn x = made(4, 4, "", "");
        due.is("nobody", x.tried(-1, 2), 0);
        x.come(2, 0);
        due.is("one who never moved", x.tried(-1, 2), 0);
        x.come(1, 0);
        due.is("1 and 0", x.tried(-1, 2), 1);
        x.leave(1, 0);
        due.is("one who has left counts", x.tried(-1, 2), 1);
        x.come(1, 0);
        x.leave(2, 0);
        x.come(2, 0);
        due.is("1 and 1: those who never came don't count", x.tried(-1, 2), 0);
        x.come(3, 0);
        due.is("2, 2 and 0", x.tried(-1, 2), 2);
    }

    /** "from the beginning on, for all that came and left, in that order", whichever went. */
    private static void theRuleFromTheBeginningOn() {
        String rules = "rule here=2;rule 1;";
        MoveInn x = made(3, 3, "c", rules);
        x.use(-1);
        x.come(0, 0);
        x.come(1, 0);
        x.come(2, 0);
        x.leave(2, 0);
        x.use(1);
        x.leave(1, 0);
        x.come(2, 0);
        // In all: 1, 2, 3 steps for coming, 1 for c to leave. None: b out by 2, a in 2; c in by 1.
        due.is("tried(-1, 0)", x.tried(-1, 0), 7 + 2 + 1);
        // Rule 0: a from 2 to 0 by 2; b out of 1 by 2; then a in 0 goes to 1, c comes: by 2.
        due.is("tried(0, 0)", x.tried(0, 0), 7 + 2 + 2 + 2);
        // Rule 1: b and a go on by 1 each; b out of 0 by 1, a to 0 by 1; a to 1 and c comes by 2.
        due.is("tried(1, 0)", x.tried(1, 0), 7 + 2 + 2 + 2);
        // What was: none, then rule 1: b out of 1 by 2, a from 2 to 1 by 1; c comes by 1.
        due.is("sum(0)", x.sum(0), 7 + 3 + 1);
        due.is("tried(-1, 2): a moved 2, b 1, c 0", x.tried(-1, 2), 2);
        due.is("tried(0, 2): a moved 4", x.tried(0, 2), 4);
        due.is("tried(1, 2): a moved 5", x.tried(1, 2), 5);
        due.is("a refused one is not tried", x.come(2, 0), 3);
        due.is("tried(0, 0)", x.tried(0, 0), 13);
        due.is("best(): of equal ones the first", x.best(), 0);
    }

    /** "the rule told with the fewest STEPS; of equal ones the fewest SPILT, then the first"; "NONE: no rule". */
    private static void bestOfAll() {
        due.is("no rule", made(3, 3, "", "").best(), -1);
        for (int rules = 1; rules <= 4; rules++) {
            due.is("of " + rules + " equal ones", made(3, 3, "", Due.repeat("rule 1;", rules)).best(), 0);
        }
        for (int best = 0; best < 4; best++) {
            StringBuilder rules = new StringBuilder();
            for (int rule = 0; rule < 4; rule++) {
                rules.append(rule < best ? "rule 1;" : "rule 0;");
            }
            MoveInn x = made(2, 2, "", rules.toString());
            x.come(0, 0);
            x.come(1, 0);
            x.leave(1, 0);
            due.is("the first that moves nobody", x.best(), best);
        }
        MoveInn x = made(3, 3, "b", "rule trunk=1;rule 2*(trunk=0);rule 2*(trunk=0);");
        x.come(0, 0);
        x.come(1, 0);
        x.come(2, 0);
        x.leave(2, 0);
        due.is("b goes by 1, a by 2", x.best(), 0);
        x.leave(1, 0);
        x.leave(0, 0);
        due.is("as many steps", x.tried(0, 0), x.tried(1, 0));
        due.is("one more spilt", x.tried(0, 1), x.tried(1, 1) + 1);
        due.is("of equal ones the fewest spilt, then the first", x.best(), 1);
        due.is("best() of a new object", new MoveInn().best(), -1);
    }
}
