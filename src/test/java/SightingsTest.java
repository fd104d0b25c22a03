/** Promises 16 to 18 and 25: sight, could, liars, clear. */
public final class SightingsTest {
    private static final Due due = new Due();
    private static final String INN = "room 0 0;room 0 0;room 2 0;guest a trunk 0;guest b trunk 0;guest c trunk 0;";

    public static void main(String[] args) {
        sightings();
        coulds();
        liars();
        manyOfOne();
        due.end();
    }

    private static void sightings() {
        MoveInn x = due.inn(INN);
        due.is("sight(0, 0, -1)", x.sight(0, 0, -1), -1);
        due.is("sight(0, 0, 100000)", x.sight(0, 0, 100000), -1);
        due.is("sight(0, 3, 0)", x.sight(0, 3, 0), -1);
        due.is("sight(0, -1, 0)", x.sight(0, -1, 0), -1);
        due.is("sight(3, 0, 0)", x.sight(3, 0, 0), -1);
        due.is("sight(-1, 0, 0)", x.sight(-1, 0, 0), -1);
        for (int i = 1; i <= 20; i++) {
            due.is("sight " + i, x.sight(i % 3, i % 2, i % 2 == 0 ? 0 : 99999), i);
        }
        due.is("sight 21", x.sight(0, 0, 5), -1);
        due.is("count(5)", x.count(5), 20);
        x.job(1, 1, 1);
        x.page(0, 1);
        x.book(0);
        due.is("clear()", x.clear(), true);
        due.is("count(5)", x.count(5), 0);
        due.is("count(7)", x.count(7), 0);
        due.is("count(6): pages stay", x.count(6), 1);
        due.is("count(8): the booked stay", x.count(8), 1);
        due.is("liars()", x.liars(), 0);
        due.is("could(0, 1)", x.could(0, 1), 7);
        due.is("told()", x.told(), -1);
        due.is("clear() of nothing", x.clear(), true);
        due.is("sight again", x.sight(0, 0, 5), 1);
        due.is("clear() of a new object", new MoveInn().clear(), true);
    }

    private static void coulds() {
        MoveInn x = due.inn(INN);
        due.is("could(0, 0): nobody was seen", x.could(0, 0), 7);
        x.sight(0, 0, 100);
        // Walks from room 0: to room 1 it is 1, to room 2 it is 2 and 4 for two floors.
        due.is("could(2, 105)", x.could(2, 105), 6);
        due.is("could(2, 106)", x.could(2, 106), 7);
        due.is("could(2, 95)", x.could(2, 95), 6);
        due.is("could(2, 94)", x.could(2, 94), 7);
        due.is("could(1, 100)", x.could(1, 100), 6);
        due.is("could(1, 101)", x.could(1, 101), 7);
        due.is("could(0, 100)", x.could(0, 100), 7);
        x.sight(1, 2, 110);
        x.sight(0, 2, 110);
        due.is("could(0, 106): a can't be back", x.could(0, 106), 4);
        due.is("could(1, 105)", x.could(1, 105), 7);
        due.is("could(1, 106)", x.could(1, 106), 4);
        due.is("could(0, -1)", x.could(0, -1), -1);
        due.is("could(0, 99999)", x.could(0, 99999), 7);
        due.is("could(0, 100000)", x.could(0, 100000), -1);
        due.is("could(3, 0)", x.could(3, 0), -1);
        due.is("could(-1, 0)", x.could(-1, 0), -1);
    }

    private static void liars() {
        MoveInn x = due.inn(INN);
        due.is("liars()", x.liars(), 0);
        x.sight(0, 0, 50);
        x.sight(0, 0, 50);
        due.is("liars(): the same twice", x.liars(), 0);
        x.sight(0, 1, 50);
        due.is("liars(): two of three", x.liars(), 1);
        x.sight(1, 1, 50);
        due.is("liars(): another guest", x.liars(), 1);
        x.sight(1, 2, 54);
        due.is("liars(): by one minute", x.liars(), 2);
        x.sight(1, 2, 46);
        due.is("liars(): the middle one is false", x.liars(), 2);
        x.sight(1, 1, 50);
        x.sight(1, 1, 50);
        due.is("liars(): or the two others are", x.liars(), 3);
    }

    private static void manyOfOne() {
        MoveInn x = due.inn(INN);
        for (int i = 0; i < 20; i++) {
            x.sight(2, i % 2 == 0 ? 0 : 2, 19 - i);
        }
        // By minutes: 2, 0, 2, 0 ..; from one to the other one needs 6 minutes.
        due.is("liars(): ten of a kind stay", x.liars(), 10);
        x = due.inn(INN);
        for (int i = 0; i < 20; i++) {
            x.sight(2, i % 2 == 0 ? 0 : 2, 1000 - 6 * i);
        }
        due.is("liars(): just in time", x.liars(), 0);
    }
}
