/** Objects in which there is something of everything, made by few calls. */
final class FullInn {
    static final String TEXT = "room 0 1;room 2 0;room 1 1;room 1 0;"
            + "guest a trunk 5;guest b trunk 17 bath;guest c trunk 30 ill;guest d trunk 99 bath ill;guest e trunk 0;"
            + "guest f trunk 8 bath;guest g trunk 1;guest h trunk 2;guest i trunk 3;guest j trunk 4;"
            + "rule trunk+here;rule stove*10+floors;rule moved<2;";

    /** How many calls made() takes: the text, 24 signs each, inn() and those behind it. */
    static final int MADE_BY = (TEXT.length() + 23) / 24 + 1 + 19;

    private FullInn() {
    }

    /** a and c are in; the last minute told is 50; marks 1 and 2 are laid; the tape is empty. */
    static MoveInn made() {
        MoveInn x = new MoveInn();
        Due.read(x, TEXT);
        x.come(0, 10);
        x.sight(5, 3, 40);
        x.book(3);
        x.mark(1, false);
        x.come(1, 20);
        x.use(1);
        x.come(2, 30);
        x.leave(1, 50);
        x.sight(0, 1, 12);
        x.sight(0, 2, 13);
        x.sight(4, 0, 30);
        x.page(0, 3);
        x.page(1, 6);
        x.page(7, 12);
        x.job(3, 2, 9);
        x.job(1, 4, 0);
        x.job(0, 7, 2);
        x.mark(2, false);
        x.book(5);
        return x;
    }

    /** The same with the beginning of a room on the tape. */
    static MoveInn withTape() {
        MoveInn x = made();
        Due.feed(x, "room 3");
        return x;
    }

    /** All four rooms are full. */
    static MoveInn crowded() {
        MoveInn x = withTape();
        x.come(8, 52);
        x.come(9, 53);
        return x;
    }

    /** A hundred came and left; nobody is in but a and c. */
    static MoveInn hundred() {
        MoveInn x = withTape();
        for (int i = 0; i < 48; i++) {
            x.come(6 + i % 2, 55);
            x.leave(6 + i % 2, 55);
        }
        return x;
    }

    /** As many sightings, jobs and booked guests as there may be, and a full tape. */
    static MoveInn filled() {
        MoveInn x = made();
        for (int i = 0; i < 16; i++) {
            x.sight(i % 10, i % 4, 5 * i);
        }
        for (int i = 0; i < 4; i++) {
            x.job(10 * i, 1 + i, 9 - i);
        }
        for (int guest = 4; guest < 10; guest++) {
            x.book(guest);
        }
        Due.feed(x, "room 3 1;rule 1;" + Due.repeat(" ", 984));
        return x;
    }
}
