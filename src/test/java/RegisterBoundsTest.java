/** Promises 19 to 21 at their bounds: pages, ways, who was surely where. */
public final class RegisterBoundsTest {
    private static final Due due = new Due();

    public static void main(String[] args) {
        setsOfRooms();
        pagesThatGo();
        withoutRoomsOrGuests();
        allPagesOfThree();
        tenPages();
        wrongGuests();
        due.end();
    }

    private static MoveInn made(int rooms, int guests) {
        StringBuilder inn = new StringBuilder(Due.repeat("room 0 0;", rooms));
        for (int guest = 0; guest < guests; guest++) {
            inn.append("guest ").append((char) ('a' + guest)).append(" trunk 0;");
        }
        return due.inn(inn.toString());
    }

    /** "the set of rooms (as bits)": up to all rooms that there are, and no others. */
    private static void setsOfRooms() {
        for (int rooms = 0; rooms <= 10; rooms++) {
            int all = (1 << rooms) - 1;
            MoveInn x = made(rooms, 1);
            due.is("page(0, " + all + ") of " + rooms, x.page(0, all), rooms == 0 ? 0 : 1);
            due.is("ways()", x.ways(), Math.max(1, rooms));
            int[] others = {all + 1, all + 2, all + all + 2, 1 << 30, -1, Integer.MIN_VALUE, Integer.MAX_VALUE};
            for (int set : others) {
                due.is("page(0, " + set + ") of " + rooms, x.page(0, set), -1);
            }
            due.is("ways(): as it was", x.ways(), Math.max(1, rooms));
            due.is("count(6)", x.count(6), rooms == 0 ? 0 : 1);
            if (rooms > 0) {
                due.is("the last room alone", x.page(0, 1 << rooms - 1), 1);
                due.is("sure(0)", x.sure(0), rooms - 1);
                due.is("the first room alone", x.page(0, 1), 1);
                due.is("sure(0)", x.sure(0), 0);
            }
        }
    }

    /** "A PAGE for a guest (0: none any more): how many there are". */
    private static void pagesThatGo() {
        MoveInn x = made(3, 3);
        due.is("page(0, 0): there was none", x.page(0, 0), 0);
        due.is("page(0, 3)", x.page(0, 3), 1);
        due.is("page(0, 5): the same guest", x.page(0, 5), 1);
        due.is("page(1, 1)", x.page(1, 1), 2);
        due.is("sure(0)", x.sure(0), 2);
        due.is("page(1, 0)", x.page(1, 0), 1);
        due.is("page(1, 0) again", x.page(1, 0), 1);
        due.is("sure(1): no page", x.sure(1), -1);
        due.is("sure(0)", x.sure(0), -1);
        due.is("ways()", x.ways(), 2);
        due.is("page(0, 0)", x.page(0, 0), 0);
        due.is("ways(): 1 without a page", x.ways(), 1);
        x.page(2, 4);
        due.is("clear() leaves pages", x.clear(), true);
        due.is("sure(2)", x.sure(2), 2);
    }

    private static void withoutRoomsOrGuests() {
        MoveInn x = made(0, 1);
        due.is("page(0, 0) without rooms", x.page(0, 0), 0);
        due.is("page(0, 1) without rooms", x.page(0, 1), -1);
        due.is("ways()", x.ways(), 1);
        due.is("sure(0)", x.sure(0), -1);
        x = made(1, 0);
        due.is("page(0, 1) without guests", x.page(0, 1), -1);
        due.is("ways()", x.ways(), 1);
        x = new MoveInn();
        due.is("page(0, 0) of a new object", x.page(0, 0), -1);
        due.is("ways() of a new object", x.ways(), 1);
        due.is("sure(0) of a new object", x.sure(0), -1);
    }

    /** All pages of three guests and three rooms, each against all ways. */
    private static void allPagesOfThree() {
        for (int sets = 0; sets < 512; sets++) {
            int[] set = {sets & 7, sets >> 3 & 7, sets >> 6};
            MoveInn x = made(3, 3);
            for (int guest = 0; guest < 3; guest++) {
                x.page(guest, set[guest]);
            }
            int ways = 0;
            int[] could = new int[3];
            for (int a = 0; a < 4; a++) {
                for (int b = 0; b < 4; b++) {
                    for (int c = 0; c < 4; c++) {
                        if (isWay(set, a, b, c)) {
                            ways++;
                            could[0] |= 1 << a;
                            could[1] |= 1 << b;
                            could[2] |= 1 << c;
                        }
                    }
                }
            }
            due.is("ways() of " + sets, x.ways(), ways);
            for (int guest = 0; guest < 3; guest++) {
                boolean one = set[guest] != 0 && Integer.bitCount(could[guest]) == 1;
                due.is("sure(" + guest + ") of " + sets, x.sure(guest),
                        one ? Integer.numberOfTrailingZeros(could[guest]) : -1);
            }
        }
    }

    /** Room 3 stands for one without a page, who sleeps nowhere. */
    private static boolean isWay(int[] set, int... rooms) {
        for (int one = 0; one < 3; one++) {
            if (set[one] == 0 ? rooms[one] != 3 : (set[one] >> rooms[one] & 1) == 0) {
                return false;
            }
            for (int other = 0; other < one; other++) {
                if (rooms[one] == rooms[other] && rooms[one] != 3) {
                    return false;
                }
            }
        }
        return true;
    }

    private static void tenPages() {
        long ways = 1;
        MoveInn x = made(10, 10);
        for (int guest = 0; guest < 10; guest++) {
            due.is("page(" + guest + ", 1023)", x.page(guest, 1023), guest + 1);
            ways *= 10 - guest;
            due.is("ways() of " + (guest + 1), x.ways(), ways);
            due.is("sure(" + guest + ")", x.sure(guest), -1);
        }
        x.page(9, 1);
        due.is("ways() with one fixed", x.ways(), 362880);
        due.is("sure(9)", x.sure(9), 0);
        x.page(8, 1);
        due.is("ways(): two in one room", x.ways(), 0);
        due.is("sure(9): no way", x.sure(9), -1);
        due.is("sure(0): no way", x.sure(0), -1);
        x = made(9, 10);
        for (int guest = 0; guest < 10; guest++) {
            x.page(guest, 511);
        }
        due.is("ways(): one guest too many", x.ways(), 0);
        x.page(3, 0);
        due.is("ways() of nine", x.ways(), 362880);
    }

    private static void wrongGuests() {
        MoveInn x = made(2, 2);
        x.page(0, 1);
        x.page(1, 3);
        for (int guest : new int[] {Integer.MIN_VALUE, -2, -1, 2, 3, 10, 32, 33, Integer.MAX_VALUE}) {
            due.is("page(" + guest + ", 1)", x.page(guest, 1), -1);
            due.is("page(" + guest + ", 0)", x.page(guest, 0), -1);
            due.is("sure(" + guest + ")", x.sure(guest), -1);
        }
        due.is("count(6)", x.count(6), 2);
        due.is("sure(1)", x.sure(1), 1);
    }
}
