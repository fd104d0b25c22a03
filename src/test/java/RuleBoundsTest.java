/** Promises 6 and 7 at their bounds: which rule goes, what a rule gives, and ints that wrap in it. */
public final class RuleBoundsTest {
    private static final Due due = new Due();
    private static final String MIN = "4096*4096*128";
    private static final String ZERO = "4096*4096*256";

    public static void main(String[] args) {
        whichRuleGoes();
        whatIsGiven();
        facts();
        movedUpToNow();
        whatIsSo();
        fromTheLeft();
        intsWrap();
        wrappedOnesMoveOrNot();
        due.end();
    }

    /** "The RULE goes from now on (NONE: none): true; false: others." */
    private static void whichRuleGoes() {
        for (int rules = 0; rules <= 4; rules++) {
            MoveInn x = due.inn("room 0 0;guest a trunk 1;" + Due.repeat("rule 1;", rules));
            int goes = rules == 0 ? -1 : 0;
            due.is("count(4) of " + rules, x.count(4), goes);
            for (int rule : new int[] {Integer.MIN_VALUE, -3, -2, -1, 0, 1, 2, 3, 4, 5, Integer.MAX_VALUE}) {
                boolean right = rule >= -1 && rule < rules;
                goes = right ? rule : goes;
                due.is("use(" + rule + ") of " + rules, x.use(rule), right);
                due.is("count(4) behind use(" + rule + ") of " + rules, x.count(4), goes);
            }
        }
        MoveInn x = new MoveInn();
        due.is("use(NONE) of a new object", x.use(-1), true);
        due.is("use(0) of a new object", x.use(0), false);
        x = due.inn("room 0 0;rule 1;rule 2;");
        x.use(1);
        Due.read(x, "rule 1;rule 1;rule 1;");
        due.is("rule 0 goes in a new inn", x.count(4), 0);
        x.use(-1);
        Due.read(x, "rule 1;");
        due.is("rule 0 goes in a new inn, if none went", x.count(4), 0);
    }

    private static MoveInn threeRooms() {
        MoveInn x = due.inn("room 0 0;room 3 1;room 1 0;guest a trunk 99 bath;guest b trunk 0 ill;guest c trunk 10;"
                + "rule 7;rule 8;");
        x.come(0, 0);
        x.come(1, 0);
        return x;
    }

    /** "for a guest that is in and a gap (any other room)": a in room 1, b in room 0, c out. */
    private static void whatIsGiven() {
        for (int rule = -2; rule <= 3; rule++) {
            for (int guest = -2; guest <= 4; guest++) {
                for (int gap = -2; gap <= 4; gap++) {
                    boolean right = rule >= 0 && rule < 2 && gap >= 0 && gap < 3
                            && (guest == 0 && gap != 1 || guest == 1 && gap != 0);
                    due.is("gives(" + rule + ", " + guest + ", " + gap + ")",
                            Due.gives(threeRooms(), rule, guest, gap), right ? 7 + rule : Due.THROWS);
                }
            }
        }
        MoveInn x = threeRooms();
        for (int wrong : new int[] {Integer.MIN_VALUE, Integer.MAX_VALUE, 32, 1000000}) {
            due.is("gives of rule " + wrong, Due.gives(x, wrong, 0, 0), Due.THROWS);
            due.is("gives of guest " + wrong, Due.gives(x, 0, wrong, 0), Due.THROWS);
            due.is("gives of gap " + wrong, Due.gives(x, 0, 0, wrong), Due.THROWS);
        }
        x.leave(0, 0);
        due.is("gives of one who has left", Due.gives(x, 0, 0, 2), Due.THROWS);
        x.come(0, 0);
        due.is("gives of one who is in again", Due.gives(x, 0, 0, 2), 7);
        due.is("gives of a new object", Due.gives(new MoveInn(), 0, 0, 0), Due.THROWS);
    }

    /** Each fact by itself, at its bounds. */
    private static void facts() {
        MoveInn x = facts("trunk", "bath", "ill", "here");
        four(x, 0, 0, 99, 1, 0, 1);
        four(x, 1, 2, 0, 0, 1, 0);
        x = facts("gap", "floors", "stove", "moved");
        four(x, 0, 0, 0, 3, 0, 1);
        four(x, 0, 2, 2, 2, 0, 1);
        four(x, 1, 1, 1, 3, 1, 0);
        four(x, 1, 2, 2, 1, 0, 0);
    }

    private static MoveInn facts(String... facts) {
        MoveInn x = due.inn("room 0 0;room 3 1;room 1 0;guest a trunk 99 bath;guest b trunk 0 ill;rule "
                + String.join(";rule ", facts) + ";");
        x.come(0, 0);
        x.come(1, 0);
        return x;
    }

    private static void four(MoveInn x, int guest, int gap, int... want) {
        for (int rule = 0; rule < 4; rule++) {
            due.is("gives(" + rule + ", " + guest + ", " + gap + ")", Due.gives(x, rule, guest, gap), want[rule]);
        }
    }

    /** "moved (how often the guest has moved up to now)": coming and leaving are none, and leaving forgets none. */
    private static void movedUpToNow() {
        MoveInn x = due.inn("room 0 0;room 0 0;room 0 0;guest a trunk 0;guest b trunk 0;rule moved;");
        x.use(-1);
        x.come(0, 0);
        due.is("come in", Due.gives(x, 0, 0, 2), 0);
        x.come(1, 0);
        due.is("moved once", Due.gives(x, 0, 0, 2), 1);
        x.leave(0, 0);
        x.come(0, 0);
        due.is("left and come again", Due.gives(x, 0, 0, 2), 1);
        due.is("the other one", Due.gives(x, 0, 1, 2), 1);
        x.leave(1, 0);
        x.come(1, 0);
        due.is("moved again", Due.gives(x, 0, 0, 2), 2);
    }

    private static void rule(String text, long want) {
        MoveInn x = due.inn("room 0 0;room 0 0;guest a trunk 1;rule " + text + ";");
        x.come(0, 0);
        due.is(text, Due.gives(x, 0, 0, 1), want);
    }

    /** "Of not, and, or, < and = comes 1 or 0; what is not 0 is so." */
    private static void whatIsSo() {
        int[] values = {0, 1, 2, 9999, -1, -9999};
        for (int a : values) {
            rule("not " + part(a), a == 0 ? 1 : 0);
            rule("not not " + part(a), a == 0 ? 0 : 1);
            rule(part(a), a);
            for (int b : values) {
                rule(part(a) + " and " + part(b), a != 0 && b != 0 ? 1 : 0);
                rule(part(a) + " or " + part(b), a != 0 || b != 0 ? 1 : 0);
                rule(part(a) + " < " + part(b), a < b ? 1 : 0);
                rule(part(a) + " = " + part(b), a == b ? 1 : 0);
                rule(part(a) + " + " + part(b), a + b);
                rule(part(a) + " - " + part(b), a - b);
                rule(part(a) + " * " + part(b), a * b);
            }
        }
    }

    private static String part(int value) {
        return value < 0 ? "(0-" + -value + ")" : "" + value;
    }

    /** "TEST { and TEST or or TEST }, from the left". */
    private static void fromTheLeft() {
        for (int bits = 0; bits < 8; bits++) {
            int a = bits & 1;
            int b = bits >> 1 & 1;
            int c = bits >> 2 & 1;
            rule(a + " and " + b + " or " + c, a & b | c);
            rule(a + " or " + b + " and " + c, (a | b) & c);
            rule(a + " or " + b + " or " + c, a | b | c);
            rule(a + " and " + b + " and " + c, a & b & c);
            rule("not " + a + " or " + b + " < " + c, 1 - a | (b < c ? 1 : 0));
        }
        rule("2 - 3 - 4", -5);
        rule("2 - 3 + 4", 3);
        rule("2 - 3 * 4", -10);
        rule("2 * 3 - 4", 2);
        rule("2 * 3 * 4", 24);
        rule("1 + 2 < 3 + 1", 1);
        rule("1 + 2 = 3 * 1", 1);
        rule("not 1 + 1", 1);
        rule("not (1 + 1)", 0);
        rule("5 and 1 < 2", 1);
        rule("1 and 5 - 5 or 3 and 2 < 1", 0);
    }

    /** "ints wrap". */
    private static void intsWrap() {
        rule(MIN, Integer.MIN_VALUE);
        rule(MIN + "-1", Integer.MAX_VALUE);
        rule(MIN + "-1+1", Integer.MIN_VALUE);
        rule("0-" + MIN, Integer.MIN_VALUE);
        rule(MIN + "+" + MIN, 0);
        rule("(" + MIN + ")*2", 0);
        rule("(" + MIN + ")*9999", Integer.MIN_VALUE);
        rule("(" + MIN + "-1)*(" + MIN + "-1)", 1);
        rule(ZERO, 0);
        rule("not (" + ZERO + ")", 1);
        rule(ZERO + " or 0", 0);
        rule(ZERO + " and 1", 0);
        rule(ZERO + " = 0", 1);
        rule(MIN + " and 1", 1);
        rule("not (" + MIN + ")", 0);
        rule(MIN + " < 1", 1);
        rule(MIN + " < " + MIN + "-1", 1);
        rule(MIN + "-1 < " + MIN, 0);
        rule("0-2 < " + MIN + "-1", 1);
        rule(MIN + "-1 < 0-2", 0);
        rule(MIN + " = 0-" + MIN, 1);
        rule("9999*9999*9999", 9999 * 9999 * 9999);
        rule("9999*9999*9999*9999*9999", 9999 * 9999 * 9999 * 9999 * 9999);
    }

    /** A value that has wrapped counts as it is then: "the most above 0". */
    private static void wrappedOnesMoveOrNot() {
        int[] moved = {0, 1, 0, 1};
        String[] rules = {MIN, MIN + "-1", ZERO, ZERO + "+1"};
        for (int i = 0; i < rules.length; i++) {
            MoveInn x = due.inn("room 0 0;room 0 0;guest a trunk 0;guest b trunk 0;rule " + rules[i] + ";");
            x.come(0, 0);
            x.come(1, 0);
            x.leave(1, 0);
            due.is("moves by " + rules[i], x.sum(2), 1 + moved[i]);
            due.is("tried(0, 2) by " + rules[i], x.tried(0, 2), 1 + moved[i]);
        }
        MoveInn x = due.inn("room 0 0;room 0 0;room 0 0;guest a trunk 0;guest b trunk 1;guest c trunk 0;rule "
                + MIN + "-trunk;");
        x.come(0, 0);
        x.come(1, 0);
        x.come(2, 0);
        x.leave(2, 0);
        due.is("b gives the greatest int, a the least", x.room(0, 2), 1);
        due.is("a stays", x.room(2, 2), 0);
    }
}
