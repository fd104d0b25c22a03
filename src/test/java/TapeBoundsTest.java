import java.util.regex.MatchResult;
import java.util.regex.Matcher;
import java.util.regex.Pattern;

/** Promises 2 and 3 at their bounds: which signs the tape takes, and what a token is. */
public final class TapeBoundsTest {
    private static final Due due = new Due();
    private static final String LETTERS = "abcdefghijklmnopqrstuvwxyz";

    public static void main(String[] args) {
        everySignAtEveryPlace();
        inTheOrderOfBytes();
        theThousandth();
        whatReadsTheTapeTakesIt();
        longWords();
        longNumbers();
        nothingBetween();
        blanks();
        wordsLetterByLetter();
        everySignAsAToken();
        due.end();
    }

    /** "10 and 32 .. 126"; "others .. are left out: how many there are". */
    private static void everySignAtEveryPlace() {
        for (int sign = 0; sign < 256; sign++) {
            int want = sign == 10 || sign >= 32 && sign <= 126 ? 1 : 0;
            for (int place = 0; place < 24; place++) {
                long[] three = new long[3];
                three[place / 8] = (long) sign << 56 - 8 * (place % 8);
                MoveInn x = new MoveInn();
                due.is("feed of " + sign + " at " + place, x.feed(three[0], three[1], three[2]), want);
                due.is("count(10) of " + sign + " at " + place, x.count(10), want);
            }
        }
        MoveInn x = new MoveInn();
        due.is("feed of 24 signs", x.feed(Due.eight("########", 0), Due.eight("########", 0),
                Due.eight("########", 0)), 24);
        due.is("feed of none", x.feed(-1, 0, Long.MIN_VALUE), 24);
        due.is("feed of one more", x.feed(' ', 0, 0), 25);
    }

    /** "the bytes of a, b, c, of each the highest first"; what is left out leaves no place. */
    private static void inTheOrderOfBytes() {
        MoveInn x = new MoveInn();
        due.is("feed", x.feed(Due.eight("room 1 1", 0), Due.eight(";room 2 ", 0), Due.eight("0;rule 7", 0)), 24);
        due.is("feed behind it", x.feed(';', 0, 0), 25);
        due.is("inn()", x.inn(), 0);
        due.is("room(0, 0)", x.room(0, 0), 1);
        due.is("room(0, 1)", x.room(0, 1), 1);
        due.is("room(1, 0)", x.room(1, 0), 2);
        due.is("room(1, 1)", x.room(1, 1), 0);
        due.is("count(2)", x.count(2), 1);
        String between = "r\0o" + (char) 9 + "o" + (char) 127 + "m" + (char) 128 + " " + (char) 255 + "3" + (char) 31
                + " " + (char) 11 + "1" + (char) 13 + ";";
        due.is("feed of signs with others between", Due.feed(x, between), 9);
        due.is("inn() of them", x.inn(), 0);
        due.is("room(0, 0)", x.room(0, 0), 3);
    }

    private static MoveInn blanksFed(int signs) {
        MoveInn x = new MoveInn();
        due.is("feed of blanks", Due.feed(x, Due.repeat(" ", signs)), signs);
        return x;
    }

    /** "at most 1,000 signs"; "what is beyond 1,000" is left out. */
    private static void theThousandth() {
        MoveInn x = blanksFed(999);
        due.is("feed of none at 999", x.feed(0, 0, 0), 999);
        due.is("feed of the 1,000th", x.feed(0, 0, ' '), 1000);
        due.is("feed of the 1,001st", x.feed('#', 0, 0), 1000);
        due.is("feed of 24 more", x.feed(Due.eight("########", 0), -1, 0), 1000);
        due.is("inn() of 1,000 blanks", x.inn(), 0);
        x = blanksFed(990);
        due.is("feed over the end", Due.feed(x, "room 7 1; ##############"), 1000);
        due.is("inn() of the ten that are taken", x.inn(), 0);
        due.is("room(0, 0)", x.room(0, 0), 7);
        due.is("feed when it is empty again", x.feed('#', 0, 0), 1);
        x = blanksFed(991);
        due.is("feed up to the end", Due.feed(x, "room 7 1;"), 1000);
        due.is("inn() of the last nine", x.inn(), 0);
        x = blanksFed(992);
        due.is("feed beyond the end by one", Due.feed(x, "room 7 1;"), 1000);
        due.is("inn(): the last sign is left out", x.inn(), 1 + 16 * 1000);
        x = blanksFed(980);
        due.is("feed of twenty, none between", Due.feed(x, "room 7\0\0\0\0\0\0\0\0\0 1;room 6 0;"), 998);
        due.is("inn() of 998", x.inn(), 0);
    }

    /** "what reads it takes it: it is empty then". */
    private static void whatReadsTheTapeTakesIt() {
        MoveInn x = new MoveInn();
        due.is("inn()", Due.read(x, "room 1 0;"), 0);
        due.is("count(10)", x.count(10), 0);
        due.is("inn() with a fault", Due.read(x, "room 1 0;room"), 1 + 16 * 13);
        due.is("count(10)", x.count(10), 0);
        due.is("count(0): all stays", x.count(0), 1);
        due.is("inn() behind a fault: what was wrong is gone", Due.read(x, "room 2 0;room 3 0;"), 0);
        due.is("count(0)", x.count(0), 2);
        due.is("inn() of nothing", x.inn(), 0);
        due.is("count(0)", x.count(0), 0);
    }

    /** "WORDS (letters a .. z, 8 at most)"; "a longer WORD .. at its first sign .. is none". */
    private static void longWords() {
        for (int length = 1; length <= 8; length++) {
            due.fault("guest " + LETTERS.substring(26 - length) + " trunk 1;", 0, 0);
        }
        for (int length : new int[] {9, 10, 11, 12, 13, 14, 15, 16, 17, 26}) {
            due.fault("guest " + LETTERS.substring(26 - length) + " trunk 1;", 1, 6);
        }
        for (int length : new int[] {9, 16, 64, 65, 256, 980}) {
            due.fault("guest " + Due.repeat("a", length) + " trunk 1;", 1, 6);
        }
        due.fault("roomroom 0 0;", 1, 0);
        due.fault("room 0 0;abcdefghiroom 0 0;", 1, 9);
        due.fault("rule trunktrun;", 1, 5);
        due.fault("rule floorsss;", 1, 5);
    }

    /** "NUMBERS (1 to 4 digits ..)"; "a longer .. NUMBER, too, at its first sign .. is none". */
    private static void longNumbers() {
        for (String one : new String[] {"1", "01", "001", "0001"}) {
            due.fault("room " + one + " " + one + ";guest a trunk " + one + ";rule " + one + ";", 0, 0);
        }
        for (String one : new String[] {"00001", "00000", "000001", "0000000001", "4294967297", "4294967296"}) {
            due.fault("room " + one + " 0;", 1, 5);
            due.fault("room 0 " + one + ";", 1, 7);
            due.fault("guest a trunk " + one + ";", 1, 14);
            due.fault("rule " + one + ";", 1, 5);
        }
        due.fault("rule " + Due.repeat("0", 990) + ";", 1, 5);
        gives("9999", 9999);
        gives("0000", 0);
        gives("0100", 100);
        gives("1000", 1000);
    }

    private static void gives(String rule, int want) {
        MoveInn x = due.inn("room 0 0;room 0 0;guest a trunk 0;rule " + rule + ";");
        x.come(0, 0);
        due.is(rule, Due.gives(x, 0, 0, 1), want);
    }

    /** "a letter may stand right behind" a number; a digit behind a word; "each as long as can be". */
    private static void nothingBetween() {
        due.fault("room0 0;guest a trunk5bath;guest b trunk0005ill;rule 1and 1or 0;rule not1;rule(1)and(2);", 0, 0);
        gives("1and 0", 0);
        gives("0or 0007", 1);
        gives("not0", 1);
        gives("12", 12);
        due.fault("guest a1 trunk 1;", 1, 7);
        due.fault("guest a trunkill 1;", 1, 8);
        due.fault("rule notill;", 1, 5);
        due.fault("rule 1and1;", 0, 0);
        due.fault("rule 1andill;", 1, 6);
        due.fault("room 00;", 1, 7);
        due.fault("room 0 0room 0 0;", 1, 8);
        due.fault("rule 1==1;", 1, 7);
        due.fault("rule 1<=1;", 1, 7);
        due.fault("rule 1--1;", 1, 7);
        due.fault("rule 1**1;", 1, 7);
    }

    /** "blanks (10, 32) between where one likes". */
    private static void blanks() {
        String[] tokens = {"room", "1", "0", ";", "guest", "a", "trunk", "5", "bath", "ill", ";", "rule", "not", "(",
            "ill", "+", "2", "*", "here", "-", "gap", "<", "3", ")", "and", "floors", "=", "stove", "or", "moved", ";"};
        for (String blank : new String[] {" ", "\n", "  ", "\n\n", " \n", "\n  \n"}) {
            due.fault(String.join(blank, tokens), 0, 0);
            due.fault(blank + String.join(blank, tokens) + blank, 0, 0);
        }
        due.fault(" ", 0, 0);
        due.fault("\n", 0, 0);
        due.fault("ro om 0 0;", 1, 0);
        due.fault("ro\nom 0 0;", 1, 0);
        due.fault("room 1 2;", 4, 7);
        due.fault("rule 1 2;", 1, 7);
        due.fault("guest a b trunk 1;", 1, 8);
    }

    /** A word that is told by the document stands only where it is that word, by each of its letters. */
    private static void wordsLetterByLetter() {
        String text = "room 0 0;guest x trunk 1 bath ill;"
                + "rule not ill and bath or trunk+here*gap-floors<stove and moved=1;";
        due.fault(text, 0, 0);
        Matcher words = Pattern.compile("[a-z]{2,}").matcher(text);
        while (words.find()) {
            String word = words.group();
            for (int letter = 0; letter < word.length(); letter++) {
                String ahead = word.substring(0, letter);
                String behind = word.substring(letter + 1);
                otherWord(text, words, ahead + (char) (word.charAt(letter) + 1) + behind);
                otherWord(text, words, ahead + behind);
            }
            otherWord(text, words, word + "s");
            otherWord(text, words, "s" + word);
        }
    }

    private static void otherWord(String text, MatchResult word, String other) {
        due.fault(text.substring(0, word.start()) + other + text.substring(word.end()), 1, word.start());
    }

    /** "the signs ( ) < = + - * ;  All else .. is none": each sign where each of them may stand. */
    private static void everySignAsAToken() {
        for (char sign = 33; sign <= 126; sign++) {
            boolean letter = sign >= 'a' && sign <= 'z';
            boolean digit = sign >= '0' && sign <= '9';
            boolean joins = "+-*<=".indexOf(sign) >= 0;
            due.fault(sign + ";", 1, 0);
            due.fault("room 0 0 " + sign, sign == ';' ? 0 : 1, 9);
            due.fault("room " + sign + " 0;", digit ? 0 : 1, 5);
            due.fault("room 0 " + sign + ";", !digit ? 1 : sign < '2' ? 0 : 4, 7);
            due.fault("guest " + sign + " trunk 1;", letter ? 0 : 1, 6);
            due.fault("guest a trunk " + sign + ";", digit ? 0 : 1, 14);
            due.fault("guest a trunk 1 " + sign + ";", 1, sign == ';' ? 17 : 16);
            due.fault("rule " + sign + ";", digit ? 0 : 1, sign == '(' ? 6 : 5);
            due.fault("rule 1 " + sign + " 1;", joins ? 0 : 1, sign == ';' ? 9 : 7);
            due.fault("rule (1 " + sign + ";", sign == ')' ? 0 : 1, joins ? 9 : 8);
            due.fault("rule not " + sign + ";", digit ? 0 : 1, sign == '(' ? 10 : 9);
        }
    }
}
