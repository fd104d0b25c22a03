import java.util.ArrayList;
import java.util.List;
import java.util.NoSuchElementException;
import java.util.Random;

/** Runs of calls drawn by fixed seeds: the class answers as the document in its plainest form does. */
public final class RandomRunsTest {
    private static final int CALLS = 512;
    /** A tape of 1,000 signs is fed by 42 calls. Texts may be longer, and are fed to the end: then by a few more. */
    private static final int CALLS_OF_AN_INN = 80;
    private static final int[] ODD = {-1, -2, 10, 11, 1000000, Integer.MIN_VALUE, Integer.MAX_VALUE};
    private static final Due due = new Due();

    private final Random random;
    private final MoveInn real = new MoveInn();
    private final PlainInn plain = new PlainInn();
    private final List<String> called = new ArrayList<>();
    private int minute;

    private RandomRunsTest(long seed) {
        random = new Random(seed);
    }

    public static void main(String[] args) {
        int runs = args.length > 0 ? Integer.parseInt(args[0]) : 150;
        long from = args.length > 1 ? Long.parseLong(args[1]) : 1;
        for (long seed = from; seed < from + runs && due.wrong() == 0; seed++) {
            new RandomRunsTest(seed).run(seed);
        }
        texts(from);
        due.end();
    }

    /** Texts that are nearly right, for their faults. */
    private static void texts(long seed) {
        Random random = new Random(seed);
        for (int i = 0; i < 4000 && due.wrong() == 0; i++) {
            MoveInn real = new MoveInn();
            PlainInn plain = new PlainInn();
            String text = spoilt(new InnText(random).text(), random);
            due.is("inn() of " + text, answer(real, plain, text, false), answer(real, plain, text, true));
        }
    }

    private static int answer(MoveInn real, PlainInn plain, String text, boolean plainly) {
        for (int at = 0; at < text.length(); at += 24) {
            long a = Due.eight(text, at);
            long b = Due.eight(text, at + 8);
            long c = Due.eight(text, at + 16);
            if (plainly) {
                plain.feed(a, b, c);
            } else {
                real.feed(a, b, c);
            }
        }
        return plainly ? plain.inn() : real.inn();
    }

    private static String spoilt(String text, Random random) {
        StringBuilder spoilt = new StringBuilder(text);
        String signs = "();+-*<= \nabz019#A~";
        String[] words = {"room", "guest", "rule", "not ", "not not ", "and", "or", "bath ", "ill ", "trunk", "((", ")",
            "99", "12345", "abcdefghi", "gap", ";"};
        int times = random.nextInt(3);
        for (int i = 0; i < times && spoilt.length() > 0; i++) {
            int at = random.nextInt(spoilt.length());
            switch (random.nextInt(4)) {
                case 0 -> spoilt.deleteCharAt(at);
                case 1 -> spoilt.setCharAt(at, signs.charAt(random.nextInt(signs.length())));
                case 2 -> spoilt.insert(at, words[random.nextInt(words.length)]);
                default -> spoilt.setLength(at);
            }
        }
        return spoilt.toString();
    }

    private void run(long seed) {
        readInn();
        while (called.size() < CALLS && due.wrong() == 0) {
            call();
        }
        if (due.wrong() > 0) {
            System.out.println("seed " + seed + ":");
            called.forEach(call -> System.out.println("  " + call));
        }
    }

    private void readInn() {
        String text = new InnText(random).text();
        if (random.nextInt(4) == 0) {
            text = spoilt(text, random);
        }
        for (int at = 0; at < text.length(); at += 24) {
            long a = Due.eight(text, at);
            long b = Due.eight(text, at + 8);
            long c = Due.eight(text, at + 16);
            same("feed(" + a + ", " + b + ", " + c + ")", real.feed(a, b, c), plain.feed(a, b, c));
        }
        same("inn() of " + text, real.inn(), plain.inn());
        minute = plain.count(9) == 0 ? 0 : minute;
    }

    private void same(String call, long got, long want) {
        called.add(call + " = " + got);
        due.is(call, got, want);
    }

    private void same(String call, boolean got, boolean want) {
        same(call, got ? 1 : 0, want ? 1 : 0);
    }

    private int small(int most) {
        return random.nextInt(25) == 0 ? ODD[random.nextInt(ODD.length)] : random.nextInt(Math.max(1, most));
    }

    private int guest() {
        return small(plain.count(1));
    }

    private int room() {
        return small(plain.count(0));
    }

    private int rule() {
        return random.nextInt(5) == 0 ? -1 : small(plain.count(2));
    }

    private int asked() {
        return small(plain.over() + 5);
    }

    private int seenAt() {
        return random.nextInt(30) == 0 ? ODD[random.nextInt(ODD.length)] : random.nextInt(60);
    }

    private void call() {
        int kind = random.nextInt(100);
        if (kind < 30) {
            comeOrLeave();
        } else if (kind < 50) {
            askMinutes();
        } else if (kind < 65) {
            askRooms();
        } else if (kind < 75) {
            sightOrPage();
        } else if (kind < 82) {
            porters();
        } else if (kind < 90) {
            arrivals();
        } else if (kind < 97) {
            rulesAndMarks();
        } else if (random.nextInt(12) == 0 && called.size() + CALLS_OF_AN_INN <= CALLS) {
            readInn();
        } else {
            int what = small(11);
            same("count(" + what + ")", real.count(what), plain.count(what));
        }
    }

    private void comeOrLeave() {
        if (random.nextInt(3) == 0) {
            minute += random.nextInt(12);
        }
        int at = random.nextInt(40) == 0 ? ODD[random.nextInt(ODD.length)] : minute - (random.nextInt(30) == 0 ? 1 : 0);
        int guest = guest();
        if (plain.guest(guest, 3) == -1 || random.nextInt(20) == 0) {
            same("come(" + guest + ", " + at + ")", real.come(guest, at), plain.come(guest, at));
        } else {
            same("leave(" + guest + ", " + at + ")", real.leave(guest, at), plain.leave(guest, at));
        }
    }

    private void askMinutes() {
        int guest = guest();
        int room = room();
        int one = asked();
        long later = Math.min(Integer.MAX_VALUE, (long) one + random.nextInt(30));
        int other = random.nextInt(8) == 0 ? asked() : (int) later;
        switch (random.nextInt(4)) {
            case 0 -> same("where(" + guest + ", " + one + ")", real.where(guest, one), plain.where(guest, one));
            case 1 -> same("who(" + room + ", " + one + ")", real.who(room, one), plain.who(room, one));
            case 2 -> same("letter(" + guest + ", " + one + ", " + other + ")",
                    real.letter(guest, one, other), plain.letter(guest, one, other));
            default -> same("trunk(" + room + ", " + one + ", " + other + ")",
                    real.trunk(room, one, other), plain.trunk(room, one, other));
        }
    }

    private void askRooms() {
        int guest = guest();
        int room = room();
        int rule = rule();
        int what = small(6);
        switch (random.nextInt(5)) {
            case 0 -> same("room(" + room + ", " + what + ")", real.room(room, what), plain.room(room, what));
            case 1 -> same("guest(" + guest + ", " + what + ")", real.guest(guest, what), plain.guest(guest, what));
            case 2 -> same("over()", real.over(), plain.over());
            case 3 -> same("sum(" + what + ")", real.sum(what), plain.sum(what));
            default -> {
                long want = Due.THROWS;
                try {
                    want = plain.gives(rule, guest, room);
                } catch (NoSuchElementException e) {
                    want = Due.THROWS;
                }
                same("gives(" + rule + ", " + guest + ", " + room + ")", Due.gives(real, rule, guest, room), want);
            }
        }
    }

    private void sightOrPage() {
        int guest = guest();
        int room = room();
        int at = seenAt();
        int rooms = plain.count(0);
        // Few rooms on a page, or all ways would take too long to tell one by one.
        int set = random.nextInt(20) == 0 ? small(1 << rooms) : random.nextInt(1 << rooms) & random.nextInt(1 << rooms);
        switch (random.nextInt(6)) {
            case 0 -> same("sight(" + guest + ", " + room + ", " + at + ")",
                    real.sight(guest, room, at), plain.sight(guest, room, at));
            case 1 -> same("could(" + room + ", " + at + ")", real.could(room, at), plain.could(room, at));
            case 2 -> same("liars()", real.liars(), plain.liars());
            case 3 -> same("page(" + guest + ", " + set + ")", real.page(guest, set), plain.page(guest, set));
            case 4 -> same("ways()", real.ways(), plain.ways());
            default -> same("sure(" + guest + ")", real.sure(guest), plain.sure(guest));
        }
    }

    private void porters() {
        int most = random.nextBoolean() ? 6 : 100;
        int ahead = small(most);
        int stairs = small(most);
        int behind = small(most);
        int what = small(plain.count(7) + 3);
        switch (random.nextInt(plain.count(7) < 6 ? 4 : 9)) {
            case 0, 1 -> same("job(" + ahead + ", " + stairs + ", " + behind + ")",
                    real.job(ahead, stairs, behind), plain.job(ahead, stairs, behind));
            case 2 -> same("told()", real.told(), plain.told());
            case 3 -> same("porters(" + what + ")", real.porters(what), plain.porters(what));
            default -> same("clear()", real.clear(), plain.clear());
        }
    }

    private void arrivals() {
        int guest = guest();
        int what = small(plain.count(8) + 2);
        // All orders of seven, each replayed, are too slow to be asked often.
        boolean few = plain.count(8) < 5 || random.nextInt(40) == 0;
        if (random.nextInt(12) == 0) {
            guest = -1 - random.nextInt(3);
        }
        if (few && random.nextBoolean()) {
            same("order(" + guest + ", " + what + ")", real.order(guest, what), plain.order(guest, what));
        } else {
            same("book(" + guest + ")", real.book(guest), plain.book(guest));
        }
    }

    private void rulesAndMarks() {
        int rule = rule();
        int what = small(3);
        int mark = small(4);
        boolean back = random.nextInt(4) == 0;
        switch (random.nextInt(4)) {
            case 0 -> same("use(" + rule + ")", real.use(rule), plain.use(rule));
            case 1 -> same("tried(" + rule + ", " + what + ")", real.tried(rule, what), plain.tried(rule, what));
            case 2 -> same("best()", real.best(), plain.best());
            default -> {
                same("mark(" + mark + ", " + back + ")", real.mark(mark, back), plain.mark(mark, back));
                minute = Math.max(0, plain.over() - 30);
            }
        }
    }
}
