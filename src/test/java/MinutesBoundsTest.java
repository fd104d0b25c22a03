/** Promises 12 to 15 at their bounds: every minute of a small inn, told by a line for each guest. */
public final class MinutesBoundsTest {
    private static final Due due = new Due();
    private static final int OUT = -1;
    private static final int STAIRS = -2;
    private static final int LAST = 999999;
    private static final int MINUTES = 47;
    private static final int ROOMS = 3;
    /** By minutes from 0 on: . out, s on the stairs, a digit the room; the last sign goes on for ever. */
    private static final String[] LINES = {
        "..ssss111111ssssss1111111111sss00sss1111sss.",
        "......ss00ss........................ss0",
        "..................sss0000sss.",
        ".",
    };
    private static final int[] WRONG_MINUTES = {Integer.MIN_VALUE, -1, LAST + 1, LAST + 2, Integer.MAX_VALUE};

    private static MoveInn made;
    private static int asked;

    public static void main(String[] args) {
        eachMinute();
        eachLetter();
        eachTrunk();
        theLastMinutes();
        wrongGuestsAndRooms();
        wrongMinutes();
        nobodyCame();
        oneCame();
        aThousandGoings();
        due.end();
    }

    /** Made anew now and then: nothing is promised of an object behind its 512th call. */
    private static MoveInn x() {
        if (made == null || asked == 400) {
            made = threeRooms();
            asked = 0;
        }
        asked++;
        return made;
    }

    /** Between the rooms all go by 1 + 2 minutes and the trunk's; a stays in room 0 for no minute, twice. */
    private static MoveInn threeRooms() {
        MoveInn x = due.inn("room 0 0;room 1 0;room 0 0;guest a trunk 9;guest b trunk 10;guest c trunk 20;"
                + "guest d trunk 0;rule 1;");
        due.is("a comes", x.come(0, 2), 0);
        due.is("b comes", x.come(1, 3), 0);
        due.is("b leaves", x.leave(1, 10), 0);
        due.is("c comes", x.come(2, 13), 0);
        due.is("c leaves", x.leave(2, 25), 0);
        due.is("b comes", x.come(1, 33), 0);
        due.is("a leaves", x.leave(0, 40), 0);
        return x;
    }

    private static int where(int guest, int minute) {
        String line = LINES[guest];
        char sign = line.charAt(Math.min(minute, line.length() - 1));
        return sign == '.' ? OUT : sign == 's' ? STAIRS : sign - '0';
    }

    private static int who(int room, int minute) {
        for (int guest = 0; guest < LINES.length; guest++) {
            if (where(guest, minute) == room) {
                return guest;
            }
        }
        return -1;
    }

    /** "is in the old room up to the beginning (that minute not), on the STAIRS from it to the end (that not)". */
    private static void eachMinute() {
        for (int minute = 0; minute < MINUTES; minute++) {
            for (int guest = 0; guest < LINES.length; guest++) {
                due.is("where(" + guest + ", " + minute + ")", x().where(guest, minute), where(guest, minute));
            }
            for (int room = 0; room < ROOMS; room++) {
                due.is("who(" + room + ", " + minute + ")", x().who(room, minute), who(room, minute));
            }
        }
    }

    /** "who is in that room then gets it"; "was in no room, others (the later minute is less)". */
    private static void eachLetter() {
        for (int guest = 0; guest < LINES.length; guest++) {
            for (int minute = 0; minute < MINUTES; minute++) {
                for (int brought = 0; brought < MINUTES; brought++) {
                    int room = where(guest, minute);
                    int want = room < 0 || brought < minute ? -1 : who(room, brought);
                    due.is("letter(" + guest + ", " + minute + ", " + brought + ")",
                            x().letter(guest, minute, brought), want);
                }
            }
        }
    }

    /** "guests who were in the room (not on the STAIRS) at some minute from one to another one". */
    private static void eachTrunk() {
        for (int room = 0; room < ROOMS; room++) {
            for (int from = 0; from < MINUTES; from++) {
                for (int to = 0; to < MINUTES; to++) {
                    int want = to < from ? -1 : 0;
                    for (int minute = from; minute <= to; minute++) {
                        want |= who(room, minute) == -1 ? 0 : 1 << who(room, minute);
                    }
                    due.is("trunk(" + room + ", " + from + ", " + to + ")", x().trunk(room, from, to), want);
                }
            }
        }
    }

    /** "(minutes 0 to 999999)". */
    private static void theLastMinutes() {
        MoveInn x = threeRooms();
        for (int guest = 0; guest < LINES.length; guest++) {
            due.is("where(" + guest + ", LAST)", x.where(guest, LAST), where(guest, LAST));
            due.is("where(" + guest + ", LAST - 1)", x.where(guest, LAST - 1), where(guest, LAST));
        }
        due.is("who(0, LAST)", x.who(0, LAST), 1);
        due.is("who(1, LAST)", x.who(1, LAST), -1);
        due.is("letter(1, LAST, LAST)", x.letter(1, LAST, LAST), 1);
        due.is("letter(1, LAST, LAST - 1)", x.letter(1, LAST, LAST - 1), -1);
        due.is("letter(1, 8, LAST)", x.letter(1, 8, LAST), 1);
        due.is("letter(0, 18, LAST)", x.letter(0, 18, LAST), -1);
        due.is("trunk(0, LAST, LAST)", x.trunk(0, LAST, LAST), 2);
        due.is("trunk(0, 0, LAST)", x.trunk(0, 0, LAST), 7);
        due.is("trunk(1, 0, LAST)", x.trunk(1, 0, LAST), 1);
        due.is("trunk(2, 0, LAST)", x.trunk(2, 0, LAST), 0);
        due.is("trunk(0, LAST, LAST - 1)", x.trunk(0, LAST, LAST - 1), -1);
    }

    private static void wrongGuestsAndRooms() {
        MoveInn x = threeRooms();
        for (int one : new int[] {Integer.MIN_VALUE, -3, -2, -1, 4, 5, 10, 16, 32, 33, Integer.MAX_VALUE}) {
            due.is("where(" + one + ", 8)", x.where(one, 8), -3);
            due.is("letter(" + one + ", 8, 9)", x.letter(one, 8, 9), -1);
        }
        for (int one : new int[] {Integer.MIN_VALUE, -3, -2, -1, 3, 4, 10, 16, 32, 33, Integer.MAX_VALUE}) {
            due.is("who(" + one + ", 8)", x.who(one, 8), -1);
            due.is("trunk(" + one + ", 8, 9)", x.trunk(one, 8, 9), -1);
        }
    }

    private static void wrongMinutes() {
        MoveInn x = threeRooms();
        for (int minute : WRONG_MINUTES) {
            due.is("where(1, " + minute + ")", x.where(1, minute), -3);
            due.is("who(0, " + minute + ")", x.who(0, minute), -1);
            due.is("letter(1, 8, " + minute + ")", x.letter(1, 8, minute), -1);
            due.is("letter(1, " + minute + ", 8)", x.letter(1, minute, 8), -1);
            due.is("letter(1, " + minute + ", LAST)", x.letter(1, minute, LAST), -1);
            due.is("letter(1, " + minute + ", the same)", x.letter(1, minute, minute), -1);
            due.is("trunk(0, " + minute + ", LAST)", x.trunk(0, minute, LAST), -1);
            due.is("trunk(0, 0, " + minute + ")", x.trunk(0, 0, minute), -1);
            due.is("trunk(0, " + minute + ", the same)", x.trunk(0, minute, minute), -1);
        }
        due.is("letter of a wrong guest at a wrong minute", x.letter(4, -1, 9), -1);
    }

    private static void nobodyCame() {
        MoveInn x = due.inn("room 0 0;guest a trunk 0;");
        for (int minute : new int[] {0, 1, LAST}) {
            due.is("where(0, " + minute + ")", x.where(0, minute), -1);
            due.is("who(0, " + minute + ")", x.who(0, minute), -1);
            due.is("letter(0, " + minute + ", LAST)", x.letter(0, minute, LAST), -1);
            due.is("trunk(0, 0, " + minute + ")", x.trunk(0, 0, minute), 0);
        }
        x = new MoveInn();
        due.is("where(0, 0) of a new object", x.where(0, 0), -3);
        due.is("who(0, 0) of a new object", x.who(0, 0), -1);
        due.is("letter(0, 0, 0) of a new object", x.letter(0, 0, 0), -1);
        due.is("trunk(0, 0, 0) of a new object", x.trunk(0, 0, 0), -1);
    }

    private static void oneCame() {
        MoveInn x = due.inn("room 0 0;guest a trunk 0;");
        x.come(0, 0);
        due.is("where(0, 0)", x.where(0, 0), -2);
        due.is("who(0, 0)", x.who(0, 0), -1);
        due.is("trunk(0, 0, 0)", x.trunk(0, 0, 0), 0);
        due.is("where(0, 1)", x.where(0, 1), 0);
        due.is("who(0, 1)", x.who(0, 1), 0);
        due.is("who(0, LAST)", x.who(0, LAST), 0);
        due.is("letter(0, 1, LAST)", x.letter(0, 1, LAST), 0);
        due.is("trunk(0, 0, 1)", x.trunk(0, 0, 1), 1);
        due.is("trunk(0, 1, 1)", x.trunk(0, 1, 1), 1);
    }

    /** Ten guests of ten rooms, a hundred times, each by ten goings or nearly so: each is kept. */
    private static void aThousandGoings() {
        StringBuilder inn = new StringBuilder();
        for (char name = 'a'; name <= 'j'; name++) {
            inn.append("room 0 0;guest ").append(name).append(" trunk 0;");
        }
        MoveInn x = due.inn(inn + "rule 1;");
        for (int guest = 0; guest < 10; guest++) {
            x.come(guest, 0);
        }
        int first = 9;
        for (int i = 0; i < 45; i++) {
            due.is("leave(" + first + ", 0)", x.leave(first, 0), 0);
            due.is("come(" + first + ", 0)", x.come(first, 0), 0);
        }
        due.is("count(9)", x.count(9), 100);
        due.is("over()", x.over(), 55 + 900);
        for (int i = 0; i < 45; i++) {
            int begin = 55 + 20 * i;
            due.is("where(9), going out", x.where(9, begin), -2);
            due.is("where(9), out", x.where(9, begin + 1), -1);
            due.is("where(8), going to room 0", x.where(8, begin + 1), -2);
            due.is("where(8), in room 0", x.where(8, begin + 2), 0);
            due.is("where(0), just in room 8 and going back to room 9", x.where(0, begin + 10), -2);
            due.is("where(0), in room 9", x.where(0, begin + 11), 9);
        }
        for (int room = 0; room < 10; room++) {
            due.is("who(" + room + ", LAST)", x.who(room, LAST), 9 - room);
            due.is("where(" + room + ", LAST)", x.where(room, LAST), 9 - room);
        }
    }
}
