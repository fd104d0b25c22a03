import java.util.Random;

/** Promises 16 to 18 and 25 at their bounds: sightings, who could have been where, liars. */
public final class SightingsBoundsTest {
    private static final Due due = new Due();
    private static final int[] FLOORS = {0, 9, 3, 3};
    private static final int LAST = 99999;

    public static void main(String[] args) {
        whatIsTaken();
        theTwentieth();
        walksBothWays();
        eachSightingCounts();
        onlyOwnSightings();
        wrongRoomsAndMinutes();
        twoSightings();
        chainsOfSightings();
        liarsByTryingAll();
        cleared();
        due.end();
    }

    private static MoveInn made() {
        return due.inn("room 0 0;room 9 0;room 3 1;room 3 0;guest a trunk 0;guest b trunk 99;guest c trunk 1;");
    }

    private static int walk(int one, int other) {
        return Math.abs(one - other) + 2 * Math.abs(FLOORS[one] - FLOORS[other]);
    }

    /** "a guest was in a room at a minute (0 to 99999)". */
    private static void whatIsTaken() {
        MoveInn x = made();
        int many = 0;
        for (int guest = -1; guest <= 3; guest++) {
            for (int room = -1; room <= 4; room++) {
                boolean right = guest >= 0 && guest < 3 && room >= 0 && room < 4;
                many += right ? 1 : 0;
                due.is("sight(" + guest + ", " + room + ", 5)", x.sight(guest, room, 5), right ? many : -1);
                due.is("count(5)", x.count(5), many);
            }
        }
        x = made();
        due.is("sight(0, 0, 0)", x.sight(0, 0, 0), 1);
        due.is("sight(0, 0, LAST)", x.sight(0, 0, LAST), 2);
        for (int wrong : new int[] {Integer.MIN_VALUE, -1, LAST + 1, 999999, Integer.MAX_VALUE}) {
            due.is("sight(0, 0, " + wrong + ")", x.sight(0, 0, wrong), -1);
            due.is("sight(" + wrong + ", 0, 0)", x.sight(wrong, 0, 0), -1);
            due.is("sight(0, " + wrong + ", 0)", x.sight(0, wrong, 0), -1);
        }
        due.is("count(5)", x.count(5), 2);
        due.is("sight of a new object", new MoveInn().sight(0, 0, 0), -1);
    }

    /** "SIGHTINGS, 20 at most"; "NONE: others, 20 are there". */
    private static void theTwentieth() {
        MoveInn x = made();
        for (int i = 1; i <= 20; i++) {
            due.is("sighting " + i, x.sight(0, i % 2, 1000), i);
        }
        due.is("sighting 21", x.sight(1, 0, 0), -1);
        due.is("count(5)", x.count(5), 20);
        due.is("it counts for nothing", x.could(3, 0), 7);
        due.is("liars(): ten of twenty", x.liars(), 10);
        x.clear();
        due.is("a sighting when all are cleared", x.sight(1, 0, 0), 1);
        due.is("could(3, 0)", x.could(3, 0), 5);
    }

    /** "the WALK to it is not longer than the time between (before or behind)". */
    private static void walksBothWays() {
        for (int seen = 0; seen < 4; seen++) {
            for (int room = 0; room < 4; room++) {
                MoveInn x = made();
                x.sight(1, seen, 1000);
                int walk = walk(seen, room);
                String text = "from " + seen + " to " + room;
                due.is(text + " in time", x.could(room, 1000 + walk), 7);
                due.is(text + " too late by one", x.could(room, 1000 + walk - 1), walk == 0 ? 7 : 5);
                due.is(text + " in time, before", x.could(room, 1000 - walk), 7);
                due.is(text + " too late by one, before", x.could(room, 1000 - walk + 1), walk == 0 ? 7 : 5);
                due.is(text + " at once", x.could(room, 1000), walk == 0 ? 7 : 5);
                due.is(text + ", far ahead", x.could(room, 0), 7);
                due.is(text + ", far behind", x.could(room, LAST), 7);
            }
        }
    }

    private static void eachSightingCounts() {
        MoveInn x = made();
        x.sight(0, 0, 100);
        x.sight(0, 0, 139);
        // To room 1 and back it is 19 each way.
        for (int minute = 90; minute < 150; minute++) {
            boolean in = Math.abs(minute - 100) >= 19 && Math.abs(minute - 139) >= 19;
            due.is("could(1, " + minute + ")", x.could(1, minute), in ? 7 : 6);
        }
        x.sight(0, 2, 120);
        due.is("could(1, 119), seen in room 2 since", x.could(1, 119), 6);
    }

    private static void onlyOwnSightings() {
        MoveInn x = made();
        due.is("nobody was seen", x.could(0, 0), 7);
        x.sight(0, 0, 50);
        due.is("could(1, 50)", x.could(1, 50), 6);
        x.sight(2, 2, 50);
        due.is("could(1, 50)", x.could(1, 50), 2);
        due.is("could(0, 50)", x.could(0, 50), 3);
        due.is("could(2, 50)", x.could(2, 50), 6);
        x.sight(1, 3, 50);
        due.is("could(1, 50): nobody", x.could(1, 50), 0);
        due.is("those who came are not seen by that", x.come(0, 60) + x.could(1, 69), 7);
        x = due.inn("room 0 0;");
        due.is("could(0, 0) without guests", x.could(0, 0), 0);
    }

    private static void wrongRoomsAndMinutes() {
        MoveInn x = made();
        for (int wrong : new int[] {Integer.MIN_VALUE, -1, LAST + 1, 999999, Integer.MAX_VALUE}) {
            due.is("could(0, " + wrong + ")", x.could(0, wrong), -1);
            due.is("could(" + wrong + ", 0)", x.could(wrong, 0), -1);
        }
        due.is("could(4, 0)", x.could(4, 0), -1);
        due.is("could(3, 0)", x.could(3, 0), 7);
        due.is("could(3, LAST)", x.could(3, LAST), 7);
        due.is("could of a new object", new MoveInn().could(0, 0), -1);
    }

    /** "any two of which can't both be so (by WALK)". */
    private static void twoSightings() {
        for (int one = 0; one < 4; one++) {
            for (int other = 0; other < 4; other++) {
                int walk = walk(one, other);
                for (int between = Math.max(0, walk - 1); between <= walk + 1; between++) {
                    int lies = walk > between ? 1 : 0;
                    MoveInn x = made();
                    x.sight(0, one, 500);
                    x.sight(0, other, 500 + between);
                    due.is(one + " and " + other + " by " + between, x.liars(), lies);
                    x = made();
                    x.sight(0, one, 500);
                    x.sight(0, other, 500 - between);
                    due.is(one + " and " + other + " by " + between + " ahead", x.liars(), lies);
                    x = made();
                    x.sight(0, one, 500);
                    x.sight(1, other, 500 + between);
                    due.is("of two guests, " + one + " and " + other, x.liars(), 0);
                }
            }
        }
        due.is("liars() of a new object", new MoveInn().liars(), 0);
        due.is("liars() of no sighting", made().liars(), 0);
    }

    /** "the fewest SIGHTINGS that must be false, of all guests together". */
    private static void chainsOfSightings() {
        MoveInn x = made();
        x.sight(0, 0, 100);
        x.sight(0, 1, 101);
        x.sight(0, 0, 102);
        due.is("the middle one", x.liars(), 1);
        x.sight(0, 1, 103);
        due.is("two and two", x.liars(), 2);
        x.sight(1, 0, 7);
        x.sight(1, 2, 7);
        x.sight(2, 3, 7);
        due.is("of two guests", x.liars(), 3);
        x.sight(2, 2, 7);
        x.sight(2, 1, 7);
        due.is("of three guests, all but one of c", x.liars(), 5);
    }

    /** Sets of sightings, drawn by a fixed seed, each against all its subsets. */
    private static void liarsByTryingAll() {
        Random random = new Random(18);
        for (int i = 0; i < 400; i++) {
            MoveInn x = made();
            int many = 1 + random.nextInt(10);
            int[] rooms = new int[many];
            int[] minutes = new int[many];
            for (int at = 0; at < many; at++) {
                rooms[at] = random.nextInt(4);
                minutes[at] = random.nextInt(60);
                x.sight(2, rooms[at], minutes[at]);
            }
            due.is("liars() of set " + i, x.liars(), many - mostTrue(rooms, minutes));
        }
    }

    private static int mostTrue(int[] rooms, int[] minutes) {
        int most = 0;
        for (int set = 0; set < 1 << rooms.length; set++) {
            boolean all = true;
            for (int one = 0; one < rooms.length && all; one++) {
                for (int other = 0; other < one && all; other++) {
                    all = (set >> one & set >> other & 1) == 0
                            || walk(rooms[one], rooms[other]) <= Math.abs(minutes[one] - minutes[other]);
                }
            }
            most = all ? Math.max(most, Integer.bitCount(set)) : most;
        }
        return most;
    }

    /** "No SIGHTING, no JOB: true." */
    private static void cleared() {
        MoveInn x = made();
        x.sight(0, 0, 5);
        x.sight(0, 1, 5);
        x.job(1, 2, 3);
        x.page(0, 3);
        x.book(1);
        x.come(2, 7);
        x.mark(0, false);
        due.is("clear()", x.clear(), true);
        int[] want = {4, 3, 0, 1, -1, 0, 1, 0, 1, 1, 0};
        for (int what = 0; what < want.length; what++) {
            due.is("count(" + what + ")", x.count(what), want[what]);
        }
        due.is("liars()", x.liars(), 0);
        due.is("could(1, 5)", x.could(1, 5), 7);
        due.is("told()", x.told(), -1);
        due.is("porters(0)", x.porters(0), -1);
        due.is("clear() of nothing", x.clear(), true);
        due.is("back to the mark", x.mark(0, true), true);
        due.is("count(5)", x.count(5), 2);
        due.is("count(7)", x.count(7), 1);
        due.is("clear() of a new object", new MoveInn().clear(), true);
    }
}
