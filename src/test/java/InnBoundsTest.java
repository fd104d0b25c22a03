import java.util.ArrayList;
import java.util.List;

/** Promise 3 at its bounds: how many of each an inn may have, what numbers and names are as told, where faults are. */
public final class InnBoundsTest {
    private static final Due due = new Due();
    private static final String[] KEPT = {"room", "guest", "trunk", "bath", "ill", "rule", "not", "and", "or"};
    private static final String[] FACTS = {"trunk", "bath", "ill", "here", "gap", "floors", "stove", "moved"};

    public static void main(String[] args) {
        floorsStovesAndTrunks();
        howManyRooms();
        howManyGuests();
        howManyRules();
        allThatThereMayBe();
        numberedAsTold();
        names();
        extras();
        theEndIsAToken();
        oneTokenWrong();
        theFirstThatIsWrong();
        oneComparison();
        withinFive();
        whatCannotStandWithinFive();
        due.end();
    }

    /** "its floor (0 to 9), whether it has a stove (0 or 1)"; "trunk 0 to 99"; "4 a NUMBER that is not as told". */
    private static void floorsStovesAndTrunks() {
        for (int floor = 0; floor <= 12; floor++) {
            MoveInn x = new MoveInn();
            due.is("floor " + floor, Due.read(x, "room " + floor + " 1;"), floor <= 9 ? 0 : 4 + 16 * 5);
            due.is("room(0, 0)", x.room(0, 0), floor <= 9 ? floor : -1);
            x = new MoveInn();
            due.is("stove " + floor, Due.read(x, "room 9 " + floor + ";"), floor <= 1 ? 0 : 4 + 16 * 7);
            due.is("room(0, 1)", x.room(0, 1), floor <= 1 ? floor : -1);
        }
        for (int trunk = 0; trunk <= 110; trunk++) {
            MoveInn x = new MoveInn();
            due.is("trunk " + trunk, Due.read(x, "guest a trunk " + trunk + ";"), trunk <= 99 ? 0 : 4 + 16 * 14);
            due.is("guest(0, 0)", x.guest(0, 0), trunk <= 99 ? trunk : -1);
        }
        due.fault("room 0009 0001;guest a trunk 0099;", 0, 0);
        due.fault("room 0010 0;", 4, 5);
        due.fault("room 9999 0;", 4, 5);
        due.fault("room 0 0002;", 4, 7);
        due.fault("room 0 9999;", 4, 7);
        due.fault("guest a trunk 0100;", 4, 14);
        due.fault("guest a trunk 9999;", 4, 14);
    }

    private static String rooms(int many) {
        return Due.repeat("room 1 1;", many);
    }

    private static String guests(int many) {
        StringBuilder text = new StringBuilder();
        for (int i = 0; i < many; i++) {
            text.append("guest ").append((char) ('a' + i)).append(" trunk ").append(i).append(';');
        }
        return text.toString();
    }

    private static String rules(int many) {
        return Due.repeat("rule 1;", many);
    }

    private static void many(String text, int what, int want) {
        MoveInn x = due.inn(text);
        for (int other = 0; other < 3; other++) {
            due.is("count(" + other + ") of " + text, x.count(other), other == what ? want : 0);
        }
    }

    /** "10 at most"; "5 one too many: the words room of an eleventh". */
    private static void howManyRooms() {
        for (int many = 0; many <= 10; many++) {
            many(rooms(many), 0, many);
        }
        due.fault(rooms(11), 5, 90);
        due.fault(rooms(10) + "room", 5, 90);
        due.fault(rooms(10) + "\n room 10 2", 5, 92);
        due.fault(rooms(10) + "room12345", 5, 90);
        due.fault(rooms(10) + "rooms", 1, 90);
        due.fault(guests(1) + rooms(10) + rules(1) + "room 0 0;", 5, 113);
    }

    /** "10 at most"; "guest of an eleventh". */
    private static void howManyGuests() {
        for (int many = 0; many <= 10; many++) {
            many(guests(many), 1, many);
        }
        due.fault(guests(11), 5, 160);
        due.fault(guests(10) + "guest", 5, 160);
        due.fault(guests(10) + "guest room", 5, 160);
        due.fault(guests(10) + "guest a trunk 1;", 5, 160);
        due.fault(guests(10) + "guests", 1, 160);
    }

    /** "4 at most"; "rule of a fifth". */
    private static void howManyRules() {
        for (int many = 0; many <= 4; many++) {
            many(rules(many), 2, many);
        }
        due.fault(rules(5), 5, 28);
        due.fault(rules(4) + "rule", 5, 28);
        due.fault(rules(4) + "rule ;", 5, 28);
        due.fault(rules(4) + "rules", 1, 28);
    }

    private static void allThatThereMayBe() {
        MoveInn x = due.inn(rules(2) + rooms(5) + guests(10) + rules(2) + rooms(5));
        due.is("count(0)", x.count(0), 10);
        due.is("count(1)", x.count(1), 10);
        due.is("count(2)", x.count(2), 4);
        due.is("inn() of the same again", Due.read(x, rooms(10) + guests(10) + rules(4)), 0);
        due.is("inn() of one too many", Due.read(x, rooms(10) + guests(10) + rules(4) + "room"), 5 + 16 * 278);
        due.is("inn() of the same once more", Due.read(x, rooms(10) + guests(10) + rules(4)), 0);
    }

    private static void numberedAsTold() {
        MoveInn x = due.inn("guest z trunk 3;room 4 0;rule 30;guest a trunk 1 ill;room 2 1;rule 10;room 9 0;"
                + "guest m trunk 2 bath;rule 20;rule 5;");
        int[] floors = {4, 2, 9};
        int[] stoves = {0, 1, 0};
        int[] trunks = {3, 1, 2};
        int[] baths = {0, 0, 1};
        int[] ills = {0, 1, 0};
        for (int i = 0; i < 3; i++) {
            due.is("room(" + i + ", 0)", x.room(i, 0), floors[i]);
            due.is("room(" + i + ", 1)", x.room(i, 1), stoves[i]);
            due.is("guest(" + i + ", 0)", x.guest(i, 0), trunks[i]);
            due.is("guest(" + i + ", 1)", x.guest(i, 1), baths[i]);
            due.is("guest(" + i + ", 2)", x.guest(i, 2), ills[i]);
        }
        x.come(1, 0);
        int[] rules = {30, 10, 20, 5};
        for (int i = 0; i < 4; i++) {
            due.is("gives(" + i + ", 1, 2)", Due.gives(x, i, 1, 2), rules[i]);
        }
    }

    /** "A NAME is another WORD than ..; no two are alike"; "3 a NAME told already". */
    private static void names() {
        for (String kept : KEPT) {
            due.fault("guest " + kept + " trunk 1;", 1, 6);
            due.fault("guest a trunk 1;guest " + kept + " trunk 1;", 1, 22);
            due.fault("guest " + kept + "s trunk 1;guest s" + kept + " trunk 1;", 0, 0);
        }
        due.fault("guest here trunk 1;guest gap trunk 2;guest floors trunk 3;guest stove trunk 4;"
                + "guest moved trunk 5;", 0, 0);
        due.fault("guest ;", 1, 6);
        due.fault("guest a;", 1, 7);
        due.fault("guest a ;", 1, 8);
        due.fault("guest a trunk ;", 1, 14);
        due.fault("guest a trunk 1 ;", 0, 0);
        for (int at = 0; at < 8; at++) {
            String other = "bbbbbbbb".substring(0, at) + "c" + "bbbbbbbb".substring(at + 1);
            due.fault("guest bbbbbbbb trunk 1;guest " + other + " trunk 1;", 0, 0);
            due.fault("guest " + other + " trunk 1;guest x trunk 2;guest " + other + " trunk 1;", 3, 45);
        }
        StringBuilder longer = new StringBuilder();
        for (char letter : new char[] {'a', 'b', 'z'}) {
            longer.setLength(0);
            for (int length = 1; length <= 8; length++) {
                longer.append("guest ").append(Due.repeat("" + letter, length)).append(" trunk 1;");
            }
            due.fault(longer.toString(), 0, 0);
        }
        String ten = guests(9);
        for (char name = 'a'; name < 'j'; name++) {
            due.fault(ten + "guest " + name, 3, ten.length() + 6);
        }
        MoveInn x = due.inn("guest a trunk 1;");
        due.is("a name of the inn before", Due.read(x, "guest a trunk 2;"), 0);
        due.is("a name that a fault follows", Due.read(x, "guest b trunk 2;x"), 1 + 16 * 16);
        due.is("that name again", Due.read(x, "guest b trunk 3;"), 0);
        due.is("guest(0, 0)", x.guest(0, 0), 3);
    }

    /** "EXTRA: bath, ill, each once at most"; "3 .. bath, ill a second time". */
    private static void extras() {
        String[] right = {"", " bath", " ill", " bath ill", " ill bath"};
        for (String extra : right) {
            MoveInn x = due.inn("guest a trunk 1" + extra + ";guest b trunk 2;");
            due.is("guest(0, 1) with" + extra, x.guest(0, 1), extra.contains("bath") ? 1 : 0);
            due.is("guest(0, 2) with" + extra, x.guest(0, 2), extra.contains("ill") ? 1 : 0);
            due.is("guest(1, 1) behind" + extra, x.guest(1, 1), 0);
            due.is("guest(1, 2) behind" + extra, x.guest(1, 2), 0);
            for (String more : new String[] {" bath", " ill"}) {
                if (extra.contains(more)) {
                    due.fault("guest a trunk 1" + extra + more, 3, 16 + extra.length());
                    due.fault("guest a trunk 1" + extra + more + ";", 3, 16 + extra.length());
                }
            }
            due.fault("guest a trunk 1" + extra + " trunk", 1, 16 + extra.length());
            due.fault("guest a trunk 1" + extra + " 1", 1, 16 + extra.length());
        }
        due.fault("guest a trunk 1 bath;guest b trunk 1 bath ill;guest c trunk 1 ill bath;", 0, 0);
        due.fault("guest a bath trunk 1;", 1, 8);
    }

    private static final String[] TOKENS = {"room", "1", "0", ";", "guest", "a", "trunk", "5", "bath", "ill", ";",
        "rule", "not", "(", "ill", "+", "2", ")", "*", "here", "-", "gap", "<", "3", "and", "floors", "=", "stove",
        "or", "moved", ";", "room", "9", "1", ";"};

    /** "the end being one at the text's length": at each token's end all that lacks is the end. */
    private static void theEndIsAToken() {
        StringBuilder text = new StringBuilder();
        for (String token : TOKENS) {
            text.append(token);
            int kind = token.equals(";") ? 0 : 1;
            due.fault(text.toString(), kind, text.length());
            due.fault(text + "  \n", kind, text.length() + 3);
            text.append(' ');
        }
    }

    /** "1 it is none, or can't stand there", told of each token in turn, with a right text ahead of it and behind. */
    private static void oneTokenWrong() {
        for (int wrong = 0; wrong < TOKENS.length; wrong++) {
            for (String other : new String[] {"#", "A", "12345", "abcdefghi", "!", "xyz"}) {
                List<String> tokens = new ArrayList<>(List.of(TOKENS));
                tokens.set(wrong, other);
                boolean name = wrong == 5 && other.equals("xyz");
                due.fault(String.join(" ", tokens), name ? 0 : 1, String.join(" ", tokens.subList(0, wrong)).length()
                        + (wrong == 0 ? 0 : 1));
            }
        }
    }

    /** "of the first token from the left that is wrong the least". */
    private static void theFirstThatIsWrong() {
        due.fault("room 10 2;", 4, 5);
        due.fault("room 1 2 #", 4, 7);
        due.fault("room # 2;", 1, 5);
        due.fault("guest a trunk 1;guest a trunk 100;", 3, 22);
        due.fault("guest a trunk 100 bath bath;", 4, 14);
        due.fault("guest a trunk 1 bath bath;room 10 0;", 3, 21);
        due.fault("room 10 0;guest a trunk 1 bath bath;", 4, 5);
        due.fault("room 0 0 room 10 0;", 1, 9);
        due.fault("rule not not not not not 1 #;", 5, 25);
        due.fault("rule # not not not not not 1;", 1, 5);
        due.fault(rooms(10) + "room # 10;", 5, 90);
        due.fault(rooms(9) + "room 10 0;room 0 0;", 4, 86);
    }

    /** "TEST: SUM, or SUM < SUM, or SUM = SUM": a second comparison needs another TEST. */
    private static void oneComparison() {
        for (String first : new String[] {"<", "="}) {
            for (String second : new String[] {"<", "="}) {
                due.fault("rule 1" + first + "2" + second + "3;", 1, 8);
                due.fault("rule 1+1" + first + "2*2" + second + "3;", 1, 12);
                due.fault("rule (1" + first + "2)" + second + "3;", 0, 0);
                due.fault("rule 1" + first + "(2" + second + "3);", 0, 0);
                due.fault("rule 1" + first + "2 and 3" + second + "4 or 5" + first + "6;", 0, 0);
            }
        }
    }

    /** "no PART lies within 5 of not and ( )"; "5 .. not, or a PART, within 5 others". */
    private static void withinFive() {
        for (int kinds = 0; kinds < 32; kinds++) {
            String four = opened(kinds, 4);
            String five = opened(kinds, 5);
            for (String fact : FACTS) {
                due.fault(four + fact + closed(kinds, 4) + ";", 0, 0);
                due.fault(five + fact + closed(kinds, 5) + ";", 5, five.length());
            }
            due.fault(four + "7" + closed(kinds, 4) + ";", 0, 0);
            due.fault(five + "7" + closed(kinds, 5) + ";", 5, five.length());
            due.fault(five + "not 7" + closed(kinds, 5) + ";", 5, five.length());
            due.fault(five + "(7)" + closed(kinds, 5) + ";", 5, five.length());
            due.fault(five + "not", 5, five.length());
            due.fault(five + "(", 5, five.length());
            due.fault(four + "7" + closed(kinds, 4) + "+" + four.substring(5) + "8" + closed(kinds, 4) + ";", 0, 0);
            due.fault(four + "(7" + closed(kinds, 4), 5, four.length() + 1);
            due.fault(four + "not 7" + closed(kinds, 4), 5, four.length() + 4);
        }
        due.fault("rule 1+2*3-4<5 and 6 or 7 and 8=9;", 0, 0);
        due.fault("rule (1)+(2)*(3)-(4)<(5)and(6)or(7);", 0, 0);
        due.fault("rule ((((1)+1)*1)<1)and((((1))));", 0, 0);
        due.fault("rule ((((1+(1", 5, 12);
    }

    /** Other tokens can't stand there, however deep: of the kinds of fault it is the least. */
    private static void whatCannotStandWithinFive() {
        for (int kinds = 0; kinds < 32; kinds++) {
            String five = opened(kinds, 5);
            for (String other : new String[] {"", ")", ";", "+", "-", "*", "<", "=", "and", "or", "room", "guest",
                "rule", "x", "#", "12345", "abcdefghi"}) {
                due.fault(five + other, 1, five.length());
            }
        }
    }

    private static String opened(int kinds, int many) {
        StringBuilder text = new StringBuilder("rule ");
        for (int i = 0; i < many; i++) {
            text.append((kinds >> i & 1) == 0 ? "not " : "(");
        }
        return text.toString();
    }

    private static String closed(int kinds, int many) {
        return Due.repeat(")", Integer.bitCount(kinds & (1 << many) - 1));
    }
}
