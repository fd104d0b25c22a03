import java.util.function.Supplier;

/** Promises 4, 5 and 8 to 11 at their bounds: rooms, guests, who comes and leaves and why not, chains and steps. */
public final class HouseBoundsTest {
    private static final Due due = new Due();

    public static void main(String[] args) {
        whatIsAskedOfRoomsAndGuests();
        whatIsAskedOfAll();
        theMinuteTold();
        reasonsInTheirOrder();
        theHundredth();
        upToTheFirstEmptyRoom();
        aGapAtTheFirstRoom();
        onlyBehindTheGap();
        theMostAboveZero();
        asLongAsThereIsOne();
        gapsAreKept();
        whenAChainBegins();
        minutesOfOne();
        stepsOfOne();
        spiltAndMoves();
        overOfNobody();
        due.end();
    }

    private static MoveInn three() {
        return due.inn("room 1 1;room 0 0;room 2 1;guest a trunk 10 bath;guest b trunk 0;guest c trunk 99 ill;"
                + "guest d trunk 5 bath ill;");
    }

    private static void whatIsAskedOfRoomsAndGuests() {
        MoveInn x = three();
        x.come(3, 0);
        int[][] rooms = {{1, 1, 3}, {0, 0, -1}, {2, 1, -1}};
        int[][] guests = {{10, 1, 0, -1, 0, 0}, {0, 0, 0, -1, 0, 0}, {99, 0, 1, -1, 0, 0}, {5, 1, 1, 0, 0, 11}};
        for (int one : new int[] {Integer.MIN_VALUE, -2, -1, 0, 1, 2, 3, 4, 5, 10, 31, 32, Integer.MAX_VALUE}) {
            for (int what : new int[] {Integer.MIN_VALUE, -1, 0, 1, 2, 3, 4, 5, 6, 7, Integer.MAX_VALUE}) {
                boolean room = one >= 0 && one < 3 && what >= 0 && what < 3;
                due.is("room(" + one + ", " + what + ")", x.room(one, what), room ? rooms[one][what] : -1);
                boolean guest = one >= 0 && one < 4 && what >= 0 && what < 6;
                due.is("guest(" + one + ", " + what + ")", x.guest(one, what), guest ? guests[one][what] : -1);
            }
        }
    }

    /** "NONE for another what". */
    private static void whatIsAskedOfAll() {
        MoveInn x = three();
        x.come(3, 0);
        x.come(0, 0);
        // d goes on by 11 steps and 1 + 2 minutes; both come by 11 steps, d by 1 + 2 minutes, a by one more.
        int[] sums = {33, 1, 1, 10};
        for (int what : new int[] {Integer.MIN_VALUE, -2, -1, 0, 1, 2, 3, 4, 5, Integer.MAX_VALUE}) {
            due.is("sum(" + what + ")", x.sum(what), what >= 0 && what < 4 ? sums[what] : -1);
        }
    }

    /** "the minute (0 to 99999) is less than the last one told". */
    private static void theMinuteTold() {
        for (int minute : new int[] {0, 1, 99998, 99999}) {
            MoveInn x = three();
            due.is("come(0, " + minute + ")", x.come(0, minute), 0);
            due.is("leave at the same", x.leave(0, minute), 0);
            due.is("come at one less", x.come(1, minute - 1), 2);
            due.is("come at the same", x.come(1, minute), 0);
            due.is("leave at one less", x.leave(1, minute - 1), 2);
            due.is("leave at one more", x.leave(1, minute + 1), minute < 99999 ? 0 : 2);
        }
        for (int minute : new int[] {Integer.MIN_VALUE, -1, 100000, 999999, Integer.MAX_VALUE}) {
            MoveInn x = three();
            due.is("come(0, " + minute + ")", x.come(0, minute), 2);
            due.is("come(0, 0)", x.come(0, 0), 0);
            due.is("leave(0, " + minute + ")", x.leave(0, minute), 2);
            due.is("leave(0, 0)", x.leave(0, 0), 0);
        }
        MoveInn x = three();
        x.come(0, 50);
        due.is("over() is later than the last minute told", x.over(), 54);
        due.is("come(1, 50)", x.come(1, 50), 0);
        due.is("refused, at a later minute", x.come(1, 90), 3);
        due.is("refused, at a later minute", x.leave(2, 95), 3);
        due.is("only what was not refused is told", x.leave(1, 50), 0);
    }

    private static MoveInn hundred(int rooms, int in) {
        MoveInn x = due.inn(Due.repeat("room 0 0;", rooms) + "guest a trunk 0;guest b trunk 0;guest c trunk 0;");
        for (int guest = 0; guest < in; guest++) {
            x.come(guest, 0);
        }
        while (x.count(9) < 100) {
            x.leave(0, 0);
            x.come(0, 0);
        }
        return x;
    }

    /** "REFUSED, the first of": for each two reasons that can be together the first one. */
    private static void reasonsInTheirOrder() {
        MoveInn x = due.inn("guest a trunk 1;");
        due.is("1 (no room) and 2", x.come(0, -1), 1);
        due.is("1 (no room) and 4", x.come(0, 0), 1);
        due.is("1 (no room) and 2", x.leave(0, 100000), 1);
        due.is("1 (no room) and 3", x.leave(0, 0), 1);
        x = three();
        for (int guest : new int[] {Integer.MIN_VALUE, -1, 4, 10, 32, Integer.MAX_VALUE}) {
            due.is("1 of guest " + guest, x.come(guest, 0), 1);
            due.is("1 and 3 of guest " + guest, x.leave(guest, 0), 1);
            due.is("1 and 2 of guest " + guest, x.come(guest, -1), 1);
            due.is("1 and 2 of guest " + guest, x.leave(guest, 100000), 1);
        }
        due.is("1 of a new object", new MoveInn().leave(0, 0), 1);
        x.come(0, 10);
        due.is("2 and 3", x.come(0, 9), 2);
        due.is("2 and 3", x.leave(1, 9), 2);
        due.is("3", x.come(0, 10), 3);
        due.is("3", x.leave(1, 10), 3);
        x.come(1, 10);
        x.come(2, 10);
        due.is("2 and 4", x.come(3, 9), 2);
        due.is("3 and 4", x.come(2, 10), 3);
        due.is("4", x.come(3, 10), 4);
        due.is("leaving, though all rooms are full", x.leave(2, 10), 0);
    }

    /** "5 100 came and left already": the hundredth is taken, the next one is not. */
    private static void theHundredth() {
        MoveInn x = hundred(2, 2);
        due.is("count(9)", x.count(9), 100);
        due.is("count(3)", x.count(3), 2);
        due.is("5: leave", x.leave(0, 0), 5);
        due.is("1 and 5", x.leave(3, 0), 1);
        due.is("2 and 5", x.leave(0, -1), 2);
        due.is("3 and 5: leave", x.leave(2, 0), 3);
        due.is("3 and 5: come", x.come(0, 0), 3);
        due.is("4 and 5", x.come(2, 0), 4);
        x = hundred(3, 2);
        due.is("5: come", x.come(2, 99999), 5);
        due.is("2 and 5: come", x.come(2, 100000), 2);
        due.is("count(9)", x.count(9), 100);
        x = due.inn("room 0 0;guest a trunk 0;");
        for (int i = 0; i < 99; i++) {
            due.is("the " + (i + 1) + "th", i % 2 == 0 ? x.come(0, i) : x.leave(0, i), 0);
            due.is("count(9)", x.count(9), i + 1);
        }
        due.is("the 100th", x.leave(0, 99), 0);
        due.is("the 101st", x.come(0, 100), 5);
    }

    private static int order(MoveInn x) {
        int order = 0;
        for (int room = 0; room < x.count(0); room++) {
            order = order * 10 + x.room(room, 2) + 1;
        }
        return order;
    }

    private static MoveInn rooms(int rooms, int guests, String rules) {
        StringBuilder inn = new StringBuilder(Due.repeat("room 0 0;", rooms));
        for (int guest = 0; guest < guests; guest++) {
            inn.append("guest ").append((char) ('a' + guest)).append(" trunk ").append(guest).append(';');
        }
        MoveInn x = due.inn(inn + rules);
        for (int guest = 0; guest < Math.min(rooms, guests); guest++) {
            due.is("come(" + guest + ", 0)", x.come(guest, 0), 0);
        }
        return x;
    }

    /** "who is there goes to room 1, and so on, up to the first room that is empty". */
    private static void upToTheFirstEmptyRoom() {
        for (int rooms = 1; rooms <= 9; rooms++) {
            MoveInn x = rooms(rooms, rooms, "");
            for (int room = 0; room < rooms; room++) {
                due.is("room(" + room + ", 2) of " + rooms, x.room(room, 2), rooms - 1 - room);
            }
            due.is("moves of " + rooms, x.sum(2), rooms * (rooms - 1) / 2);
        }
        for (int gap = 0; gap < 5; gap++) {
            MoveInn x = rooms(5, 5, "");
            int gone = x.room(gap, 2);
            int moves = x.sum(2);
            x.leave(gone, 0);
            due.is("nobody moves without rules", x.sum(2), moves);
            due.is("room(gap, 2)", x.room(gap, 2), -1);
            x.come(gone, 0);
            due.is("those ahead of the gap " + gap + " move", x.sum(2), moves + gap);
            for (int room = 0; room < 5; room++) {
                int want = room == 0 ? gone : room <= gap ? 5 - room : 4 - room;
                due.is("room(" + room + ", 2) with the gap " + gap, x.room(room, 2), want);
            }
        }
    }

    private static void aGapAtTheFirstRoom() {
        MoveInn x = rooms(3, 3, "");
        x.leave(2, 0);
        x.leave(1, 0);
        due.is("a is alone in the last room", order(x), 1);
        x.come(1, 0);
        due.is("nobody moves", order(x), 201);
        x.come(2, 0);
        due.is("one moves to the gap", order(x), 321);
    }

    /** "of the guests in rooms behind the gap (greater numbers)". */
    private static void onlyBehindTheGap() {
        Supplier<MoveInn> made = () -> rooms(4, 4, "rule 1;rule 10-here;rule here;");
        MoveInn x = made.get();
        x.use(1);
        x.leave(0, 0);
        due.is("behind the last room is nobody", order(x), 4320);
        x = made.get();
        x.use(1);
        x.leave(1, 0);
        due.is("the one ahead would give more", order(x), 4310);
        x = made.get();
        x.use(2);
        x.leave(3, 0);
        due.is("the last one gives the most", order(x), 1320);
    }

    /** "the one for whom the RULE in use gives the most above 0 (of equal ones the least room)". */
    private static void theMostAboveZero() {
        // Trunks 0 to 3 for a to d; d in room 0, a in room 3.
        due.is("0 moves nobody", afterLeaving("trunk-2"), 321);
        due.is("1 moves, and c's room is not taken then", afterLeaving("trunk-1"), 3021);
        due.is("below 0 moves nobody", afterLeaving("trunk-9"), 321);
        due.is("of equal ones the least room, again and again", afterLeaving("7"), 3210);
        due.is("b gives more than c, though behind", afterLeaving("trunk=1"), 2301);
        due.is("a gives more, though last", afterLeaving("9-trunk"), 1320);
        due.is("c and a are equal", afterLeaving("not(trunk=1)"), 3120);
    }

    private static int afterLeaving(String rule) {
        MoveInn x = rooms(4, 4, "rule " + rule + ";");
        x.leave(3, 0);
        return order(x);
    }

    /** "as long as there is one"; "that room is the gap then". */
    private static void asLongAsThereIsOne() {
        due.is("each goes on by one", afterLeaving("here=gap+1"), 3210);
        due.is("from room 2 to 0 and then nobody", afterLeaving("here=gap+2"), 2301);
        due.is("from 1 to 0, from 3 to 1", afterLeaving("(gap=0 and here=1)or(gap=1 and here=3)"), 3120);
        MoveInn x = rooms(9, 9, "rule 1;");
        int moves = x.sum(2);
        x.leave(8, 0);
        due.is("all eight go on", x.sum(2), moves + 8);
        due.is("the last room is empty", x.room(8, 2), -1);
        due.is("room(0, 2)", x.room(0, 2), 7);
    }

    /** "Without rules gaps are kept"; none in use is the same; a rule goes from now on. */
    private static void gapsAreKept() {
        MoveInn x = rooms(3, 3, "");
        x.leave(2, 0);
        due.is("without rules", order(x), 21);
        x = rooms(3, 3, "rule 1;");
        x.use(-1);
        x.leave(2, 0);
        due.is("with none in use", order(x), 21);
        x.use(0);
        due.is("use moves nobody", order(x), 21);
        x.leave(1, 0);
        due.is("from now on", order(x), 10);
    }

    /** "A CHAIN begins at its minute, or when the one before ends, if that is later." */
    private static void whenAChainBegins() {
        MoveInn x = due.inn("room 0 0;room 0 0;guest a trunk 40;guest b trunk 20;");
        x.come(0, 10);
        due.is("1 and 4 minutes", x.over(), 15);
        for (int minute = 10; minute <= 20; minute++) {
            MoveInn y = due.inn("room 0 0;room 0 0;guest a trunk 40;guest b trunk 20;");
            y.come(0, 10);
            y.come(1, minute);
            int begin = Math.max(15, minute);
            due.is("over() behind come(1, " + minute + ")", y.over(), begin + 5 + 3);
            due.is("a is still in room 0", y.where(0, begin - 1), begin == 15 ? -2 : 0);
            due.is("a goes", y.where(0, begin), -2);
            due.is("a is in room 1", y.where(0, begin + 5), 1);
            due.is("b is out up to that", y.where(1, begin + 4), -1);
            due.is("b goes behind a", y.where(1, begin + 5), -2);
            due.is("b is in room 0", y.where(1, begin + 8), 0);
        }
        x.leave(0, 14);
        due.is("leaving begins when coming ends", x.over(), 20);
    }

    /** "needs 1 minute, 2 for each floor between the two rooms (the door is at floor 0), and a tenth .., cut". */
    private static void minutesOfOne() {
        for (int trunk : new int[] {0, 1, 9, 10, 11, 19, 20, 89, 90, 99}) {
            for (int floor = 0; floor <= 9; floor++) {
                MoveInn x = due.inn("room " + floor + " 0;room 4 0;guest a trunk " + trunk + ";guest b trunk 0;");
                x.come(0, 0);
                int toDoor = 1 + 2 * floor + trunk / 10;
                due.is("in, trunk " + trunk + ", floor " + floor, x.over(), toDoor);
                due.is("sum(3)", x.sum(3), toDoor);
                x.come(1, 1000);
                int across = 1 + 2 * Math.abs(floor - 4) + trunk / 10;
                due.is("on, trunk " + trunk + ", floor " + floor, x.over(), 1000 + across + 1 + 2 * floor);
                x.leave(0, 2000);
                due.is("out, trunk " + trunk, x.over(), 2000 + 1 + 8 + trunk / 10);
                due.is("sum(3)", x.sum(3), toDoor + across + 1 + 2 * floor + 9 + trunk / 10);
            }
        }
    }

    /** "room to room: their difference; from and to the door: the room's number and 1), and 10 for each floor". */
    private static void stepsOfOne() {
        MoveInn x = due.inn("room 2 0;room 9 0;room 0 0;room 5 0;guest a trunk 0;guest b trunk 0;guest c trunk 0;"
                + "guest d trunk 0;rule here=3;");
        x.come(0, 0);
        due.is("in to room 0 of floor 2", x.guest(0, 5), 21);
        x.come(1, 0);
        due.is("from 0 to 1 by 7 floors", x.guest(0, 5), 21 + 71);
        x.come(2, 0);
        due.is("from 1 to 2 by 9 floors", x.guest(0, 5), 21 + 71 + 91);
        x.come(3, 0);
        due.is("from 2 to 3 by 5 floors", x.guest(0, 5), 21 + 71 + 91 + 51);
        due.is("sum(0)", x.sum(0), 4 * 21 + 3 * 71 + 2 * 91 + 51);
        x.leave(3, 0);
        due.is("out of room 0 of floor 2", x.guest(3, 5), 21 + 21);
        due.is("from 3 to 0 by 3 floors", x.guest(0, 5), 234 + 33);
        x.use(-1);
        x.leave(2, 0);
        due.is("out of room 1 of floor 9", x.guest(2, 5), 21 + 71 + 92);
        x.leave(1, 0);
        due.is("out of room 2 of floor 0", x.guest(1, 5), 21 + 71 + 91 + 3);
        due.is("sum(0)", x.sum(0), 4 * 21 + 3 * 71 + 2 * 91 + 51 + 21 + 33 + 92 + 3);
        x.come(1, 0);
        due.is("steps go on when one comes again", x.guest(1, 5), 186 + 21);
    }

    /** "Each time a guest with a bath goes from room to room a bath is SPILT; that is a MOVE." */
    private static void spiltAndMoves() {
        MoveInn x = due.inn("room 0 0;room 0 0;room 0 0;guest a trunk 0 bath;guest b trunk 0;guest c trunk 0 bath;"
                + "rule here=2;");
        int[] spilt = {0, 1, 2, 3};
        int[] moves = {0, 1, 3, 4};
        for (int guest = 0; guest < 3; guest++) {
            x.come(guest, 0);
            due.is("sum(1) of " + guest, x.sum(1), spilt[guest]);
            due.is("sum(2) of " + guest, x.sum(2), moves[guest]);
        }
        x.leave(2, 0);
        due.is("out spills none, from 2 to 0 does", x.sum(1), spilt[3]);
        due.is("sum(2)", x.sum(2), moves[3]);
        due.is("guest(0, 4)", x.guest(0, 4), 3);
        due.is("guest(1, 4)", x.guest(1, 4), 1);
        due.is("guest(2, 4)", x.guest(2, 4), 0);
        x.leave(0, 0);
        due.is("out spills none", x.sum(1), 3);
        due.is("guest(0, 4): one who is out", x.guest(0, 4), 3);
    }

    /** "(0 if nobody came)". */
    private static void overOfNobody() {
        due.is("over() of a new object", new MoveInn().over(), 0);
        MoveInn x = three();
        due.is("over() of a new inn", x.over(), 0);
        x.come(4, 70);
        x.leave(0, 70);
        due.is("over() when all were refused", x.over(), 0);
        x.come(1, 70);
        x.leave(1, 90);
        due.is("over() when all have left", x.over(), 93);
    }
}
