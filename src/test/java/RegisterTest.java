/** Promises 19 to 21: page, ways, sure. */
public final class RegisterTest {
    private static final Due due = new Due();

    public static void main(String[] args) {
        pages();
        sures();
        allTen();
        due.end();
    }

    private static void pages() {
        MoveInn x = due.inn("room 0 0;room 0 0;room 0 0;guest a trunk 0;guest b trunk 0;guest c trunk 0;"
                + "guest d trunk 0;");
        due.is("ways()", x.ways(), 1);
        due.is("page(0, 8)", x.page(0, 8), -1);
        due.is("page(0, -1)", x.page(0, -1), -1);
        due.is("page(0, MIN)", x.page(0, Integer.MIN_VALUE), -1);
        due.is("page(4, 1)", x.page(4, 1), -1);
        due.is("page(4, 0)", x.page(4, 0), -1);
        due.is("page(-1, 1)", x.page(-1, 1), -1);
        due.is("page(0, 0): none", x.page(0, 0), 0);
        due.is("page(1, 7)", x.page(1, 7), 1);
        due.is("ways()", x.ways(), 3);
        due.is("page(1, 5): anew", x.page(1, 5), 1);
        due.is("ways()", x.ways(), 2);
        due.is("page(2, 7)", x.page(2, 7), 2);
        due.is("ways()", x.ways(), 4);
        due.is("page(3, 7)", x.page(3, 7), 3);
        due.is("ways()", x.ways(), 4);
        due.is("page(0, 7)", x.page(0, 7), 4);
        due.is("ways(): more guests than rooms", x.ways(), 0);
        due.is("sure(1): no way", x.sure(1), -1);
        due.is("count(6)", x.count(6), 4);
        due.is("page(1, 0)", x.page(1, 0), 3);
        due.is("ways()", x.ways(), 6);
    }

    private static void sures() {
        MoveInn x = due.inn("room 0 0;room 0 0;room 0 0;guest a trunk 0;guest b trunk 0;guest c trunk 0;"
                + "guest d trunk 0;");
        x.page(0, 4);
        due.is("sure(0)", x.sure(0), 2);
        due.is("sure(1): no page", x.sure(1), -1);
        due.is("sure(4)", x.sure(4), -1);
        due.is("sure(-1)", x.sure(-1), -1);
        x.page(1, 6);
        due.is("sure(1)", x.sure(1), 1);
        x.page(3, 7);
        due.is("sure(3)", x.sure(3), 0);
        due.is("ways()", x.ways(), 1);
        x.page(0, 6);
        due.is("sure(0)", x.sure(0), -1);
        due.is("sure(3): in all ways", x.sure(3), 0);
        due.is("ways()", x.ways(), 2);
        x.page(3, 6);
        due.is("ways()", x.ways(), 0);
        due.is("sure(3): no way", x.sure(3), -1);
        x.page(3, 0);
        x.page(0, 4);
        x.page(1, 4);
        due.is("sure(0): no way", x.sure(0), -1);
    }

    private static void allTen() {
        StringBuilder inn = new StringBuilder();
        for (char name = 'a'; name < 'k'; name++) {
            inn.append("room 0 0;guest ").append(name).append(" trunk 0;");
        }
        MoveInn x = due.inn(inn.toString());
        for (int guest = 0; guest < 10; guest++) {
            due.is("page(" + guest + ", 1023)", x.page(guest, 1023), guest + 1);
        }
        due.is("ways()", x.ways(), 3628800);
        due.is("sure(0)", x.sure(0), -1);
        due.is("page(0, 1024)", x.page(0, 1024), -1);
        for (int guest = 0; guest < 10; guest++) {
            x.page(guest, (2 << guest) - 1);
        }
        due.is("ways()", x.ways(), 1);
        for (int guest = 0; guest < 10; guest++) {
            due.is("sure(" + guest + ")", x.sure(guest), guest);
        }
    }
}
