/** Promises 26 and 27: book, order. */
public final class OrderTest {
    private static final Due due = new Due();

    public static void main(String[] args) {
        booking();
        orders();
        gapsKept();
        due.end();
    }

    private static String inn(int rooms, int guests, String withBath) {
        StringBuilder inn = new StringBuilder();
        for (int i = 0; i < rooms; i++) {
            inn.append("room 0 0;");
        }
        for (char name = 'a'; name < 'a' + guests; name++) {
            inn.append("guest ").append(name).append(" trunk 0");
            inn.append(withBath.indexOf(name) >= 0 ? " bath;" : ";");
        }
        return inn.append("rule 1;").toString();
    }

    private static void booking() {
        MoveInn x = due.inn(inn(10, 9, ""));
        due.is("book(9)", x.book(9), -1);
        due.is("order(0, 0): nobody is booked", x.order(0, 0), -1);
        x.come(0, 0);
        due.is("book(0): is in", x.book(0), -1);
        due.is("order(0, 0): nobody is booked", x.order(0, 0), -1);
        for (int guest = 1; guest <= 7; guest++) {
            due.is("book(" + guest + ")", x.book(guest), guest);
        }
        due.is("book(1): already", x.book(1), -1);
        due.is("book(8): an eighth", x.book(8), -1);
        due.is("order(8, 0): neither in nor booked", x.order(8, 0), -1);
        due.is("come(3, 0)", x.come(3, 0), 0);
        due.is("count(8)", x.count(8), 6);
        due.is("book(8)", x.book(8), 7);
        due.is("leave(3, 0)", x.leave(3, 0), 0);
        due.is("count(8): leaving books nobody", x.count(8), 7);
        due.is("book(MIN)", x.book(Integer.MIN_VALUE), 0);
        due.is("count(8)", x.count(8), 0);
        due.is("book(3)", x.book(3), 1);
        due.is("book(-1)", x.book(-1), 0);
        due.is("come(9, 0) is refused", x.come(9, 0), 1);
    }

    private static void orders() {
        MoveInn x = due.inn(inn(5, 6, "bde"));
        x.come(5, 0);
        for (int guest = 0; guest < 4; guest++) {
            x.book(guest);
        }
        // For f, who is in: four come, so f goes four times; a, c without a bath, then b, d.
        orderIs(x, 5, 4, 1, 0, 2, 1, 3);
        orderIs(x, 0, 0, 3, 2, 1, 3, 0);
        orderIs(x, 1, 0, 1, 0, 2, 3, 1);
        orderIs(x, 2, 0, 3, 0, 1, 3, 2);
        orderIs(x, 3, 0, 1, 0, 2, 1, 3);
        due.is("order(5, 6)", x.order(5, 6), -1);
        due.is("order(5, -1)", x.order(5, -1), -1);
        due.is("order(5, MAX)", x.order(5, Integer.MAX_VALUE), -1);
        due.is("order(4, 0): neither in nor booked", x.order(4, 0), -1);
        due.is("order(6, 0)", x.order(6, 0), -1);
        due.is("order(-1, 0)", x.order(-1, 0), -1);
        due.is("nothing was changed", x.count(3) * 100 + x.count(8) * 10 + x.sum(2), 140);
        x.book(4);
        due.is("order(5, 0): more than rooms are empty", x.order(5, 0), -1);
        due.is("order(0, 2): more than rooms are empty", x.order(0, 2), -1);
    }

    private static void orderIs(MoveInn x, int guest, int... want) {
        for (int what = 0; what < want.length; what++) {
            due.is("order(" + guest + ", " + what + ")", x.order(guest, what), want[what]);
        }
    }

    /** A gap ends a chain, so one who is in behind it goes less often. */
    private static void gapsKept() {
        MoveInn x = due.inn(inn(6, 7, "ad"));
        x.use(-1);
        for (int guest = 0; guest < 4; guest++) {
            x.come(guest, 0);
        }
        x.leave(2, 0);
        // d in 0, a gap in 1, b in 2, a in 3, gaps in 4 and 5.
        for (int guest = 4; guest < 7; guest++) {
            x.book(guest);
        }
        x.book(-1);
        x.book(5);
        x.book(4);
        orderIs(x, 1, 1, 1 + 1 + 1, 4, 5);
        orderIs(x, 0, 1, 3, 4, 5);
        orderIs(x, 3, 2, 3, 4, 5);
        orderIs(x, 5, 0, 3, 4, 5);
        orderIs(x, 4, 0, 3, 5, 4);
    }
}
