import java.util.ArrayList;
import java.util.HashMap;
import java.util.List;
import java.util.Map;
import java.util.NoSuchElementException;
import java.util.function.Function;
import java.util.function.ToIntFunction;

/** The document in its plainest form: nothing is kept but what was told, all else is worked out anew, by trying all. */
final class PlainInn {
    static final class Fault extends Exception {
        private static final long serialVersionUID = 1L;
        final int code;

        Fault(int kind, Token token) {
            code = kind + 16 * token.place;
        }
    }

    record Token(String text, int place, boolean none) {
        boolean isWord() {
            return !none && text.matches("[a-z]+");
        }

        boolean isNumber() {
            return !none && text.matches("[0-9]+");
        }
    }

    record Room(int floor, int stove) { }

    record Guest(String name, int trunk, boolean bath, boolean ill) { }

    record Event(boolean comes, int guest, int minute, int rule) { }

    record Going(int guest, int from, int to, int begin, int end) { }

    record Sighting(int guest, int room, int minute) { }

    record Job(int ahead, int stairs, int behind) { }

    record Facts(Map<String, Integer> of) { }

    /** A whole run of the inn by some choice of rules. */
    final class Replay {
        final List<Going> goings = new ArrayList<>();
        final Map<Integer, Integer> roomOf = new HashMap<>();
        final List<Integer> everIn = new ArrayList<>();
        int over;

        Replay(List<Event> all, Function<Event, Integer> ruleOf) {
            for (Event event : all) {
                over = Math.max(over, event.minute);
                if (event.comes) {
                    comes(event.guest);
                } else {
                    leaves(event.guest, ruleOf.apply(event));
                }
            }
        }

        private void comes(int guest) {
            List<Integer> chain = new ArrayList<>();
            int room = 0;
            for (Integer there = in(room); there != null; there = in(room)) {
                chain.add(0, there);
                room++;
            }
            for (int there : chain) {
                go(there, roomOf.get(there) + 1);
            }
            go(guest, 0);
            if (!everIn.contains(guest)) {
                everIn.add(guest);
            }
        }

        private void leaves(int guest, int rule) {
            int gap = roomOf.get(guest);
            go(guest, -1);
            while (rule != -1) {
                int most = 0;
                Integer next = null;
                for (int room = gap + 1; room < rooms.size(); room++) {
                    if (in(room) != null && gives(rule, in(room), gap) > most) {
                        most = gives(rule, in(room), gap);
                        next = in(room);
                    }
                }
                if (next == null) {
                    return;
                }
                int left = roomOf.get(next);
                go(next, gap);
                gap = left;
            }
        }

        int gives(int rule, int guest, int gap) {
            Map<String, Integer> facts = new HashMap<>();
            facts.put("trunk", guests.get(guest).trunk);
            facts.put("bath", guests.get(guest).bath ? 1 : 0);
            facts.put("ill", guests.get(guest).ill ? 1 : 0);
            facts.put("here", roomOf.get(guest));
            facts.put("gap", gap);
            facts.put("floors", Math.abs(floor(roomOf.get(guest)) - floor(gap)));
            facts.put("stove", rooms.get(gap).stove);
            facts.put("moved", (int) goings.stream().filter(g -> g.guest == guest && isMove(g)).count());
            return rules.get(rule).applyAsInt(new Facts(facts));
        }

        private Integer in(int room) {
            for (Map.Entry<Integer, Integer> entry : roomOf.entrySet()) {
                if (entry.getValue() == room) {
                    return entry.getKey();
                }
            }
            return null;
        }

        private void go(int guest, int to) {
            int from = roomOf.getOrDefault(guest, -1);
            int minutes = 1 + 2 * Math.abs(floor(from) - floor(to)) + guests.get(guest).trunk / 10;
            goings.add(new Going(guest, from, to, over, over + minutes));
            over += minutes;
            if (to == -1) {
                roomOf.remove(guest);
            } else {
                roomOf.put(guest, to);
            }
        }

        int steps() {
            return goings.stream().mapToInt(PlainInn.this::steps).sum();
        }

        int spilt() {
            return (int) goings.stream().filter(g -> isMove(g) && guests.get(g.guest).bath).count();
        }

        int moves(int guest) {
            return (int) goings.stream().filter(g -> isMove(g) && g.guest == guest).count();
        }

        int spread() {
            int most = everIn.stream().mapToInt(this::moves).max().orElse(0);
            return most - everIn.stream().mapToInt(this::moves).min().orElse(0);
        }
    }

    private StringBuilder tape = new StringBuilder();
    private List<Room> rooms = new ArrayList<>();
    private List<Guest> guests = new ArrayList<>();
    private List<ToIntFunction<Facts>> rules = new ArrayList<>();
    private int rule = -1;
    private List<Event> events = new ArrayList<>();
    private List<Sighting> sightings = new ArrayList<>();
    private Map<Integer, Integer> pages = new HashMap<>();
    private List<Job> jobs = new ArrayList<>();
    private List<Integer> booked = new ArrayList<>();
    private final Map<Integer, PlainInn> marks = new HashMap<>();

    // ---- the tape and its language

    int feed(long a, long b, long c) {
        for (long eight : new long[] {a, b, c}) {
            for (int i = 7; i >= 0; i--) {
                char sign = (char) (eight >>> 8 * i & 255);
                if ((sign == 10 || sign >= 32 && sign <= 126) && tape.length() < 1000) {
                    tape.append(sign);
                }
            }
        }
        return tape.length();
    }

    int inn() {
        List<Token> tokens = tokens();
        tape = new StringBuilder();
        PlainInn read = new PlainInn();
        try {
            read.readAll(tokens);
        } catch (Fault fault) {
            return fault.code;
        }
        rooms = read.rooms;
        guests = read.guests;
        rules = read.rules;
        copyFrom(new PlainInn());
        rule = rules.isEmpty() ? -1 : 0;
        marks.clear();
        return 0;
    }

    private List<Token> tokens() {
        List<Token> tokens = new ArrayList<>();
        String left = tape.toString();
        int place = 0;
        while (true) {
            String trimmed = left.replaceFirst("^[ \n]+", "");
            place += left.length() - trimmed.length();
            left = trimmed;
            if (left.isEmpty()) {
                tokens.add(new Token("", place, true));
                return tokens;
            }
            String text = left.replaceFirst("(?s)^([a-z]+|[0-9]+|.).*$", "$1");
            boolean right = text.matches("[a-z]{1,8}|[0-9]{1,4}|[()<=+*;-]");
            tokens.add(new Token(text, place, !right));
            place += text.length();
            left = left.substring(text.length());
        }
    }

    private void readAll(List<Token> tokens) throws Fault {
        while (tokens.size() > 1 || !tokens.get(0).text.isEmpty()) {
            Token first = tokens.get(0);
            switch (first.none ? "" : first.text) {
                case "room" -> readRoom(tokens);
                case "guest" -> readGuest(tokens);
                case "rule" -> {
                    need(rules.size() < 4, 5, first);
                    tokens.remove(0);
                    rules.add(readE(tokens, 0));
                }
                default -> throw new Fault(1, first);
            }
            take(tokens, ";");
        }
    }

    private void readRoom(List<Token> tokens) throws Fault {
        need(rooms.size() < 10, 5, tokens.get(0));
        tokens.remove(0);
        int floor = number(tokens, 9);
        rooms.add(new Room(floor, number(tokens, 1)));
    }

    private void readGuest(List<Token> tokens) throws Fault {
        need(guests.size() < 10, 5, tokens.get(0));
        tokens.remove(0);
        Token name = tokens.remove(0);
        need(name.isWord() && !List.of("room", "guest", "trunk", "bath", "ill", "rule", "not", "and", "or")
                .contains(name.text), 1, name);
        need(guests.stream().noneMatch(guest -> guest.name.equals(name.text)), 3, name);
        take(tokens, "trunk");
        int trunk = number(tokens, 99);
        List<String> extras = new ArrayList<>();
        while (!tokens.get(0).none && List.of("bath", "ill").contains(tokens.get(0).text)) {
            need(!extras.contains(tokens.get(0).text), 3, tokens.get(0));
            extras.add(tokens.remove(0).text);
        }
        guests.add(new Guest(name.text, trunk, extras.contains("bath"), extras.contains("ill")));
    }

    private static void need(boolean so, int kind, Token token) throws Fault {
        if (!so) {
            throw new Fault(kind, token);
        }
    }

    private static void take(List<Token> tokens, String text) throws Fault {
        need(is(tokens, text), 1, tokens.get(0));
        tokens.remove(0);
    }

    private static boolean is(List<Token> tokens, String text) {
        return !tokens.get(0).none && tokens.get(0).text.equals(text);
    }

    private static int number(List<Token> tokens, int most) throws Fault {
        need(tokens.get(0).isNumber(), 1, tokens.get(0));
        need(Integer.parseInt(tokens.get(0).text) <= most, 4, tokens.get(0));
        return Integer.parseInt(tokens.remove(0).text);
    }

    private ToIntFunction<Facts> readE(List<Token> tokens, int within) throws Fault {
        ToIntFunction<Facts> left = readTest(tokens, within);
        while (is(tokens, "and") || is(tokens, "or")) {
            boolean and = tokens.remove(0).text.equals("and");
            ToIntFunction<Facts> one = left;
            ToIntFunction<Facts> other = readTest(tokens, within);
            left = facts -> {
                boolean a = one.applyAsInt(facts) != 0;
                boolean b = other.applyAsInt(facts) != 0;
                return (and ? a && b : a || b) ? 1 : 0;
            };
        }
        return left;
    }

    private ToIntFunction<Facts> readTest(List<Token> tokens, int within) throws Fault {
        ToIntFunction<Facts> left = readSum(tokens, within);
        if (!is(tokens, "<") && !is(tokens, "=")) {
            return left;
        }
        boolean less = tokens.remove(0).text.equals("<");
        ToIntFunction<Facts> right = readSum(tokens, within);
        return facts -> {
            int a = left.applyAsInt(facts);
            int b = right.applyAsInt(facts);
            return (less ? a < b : a == b) ? 1 : 0;
        };
    }

    private ToIntFunction<Facts> readSum(List<Token> tokens, int within) throws Fault {
        ToIntFunction<Facts> left = readProduct(tokens, within);
        while (is(tokens, "+") || is(tokens, "-")) {
            int sign = tokens.remove(0).text.equals("+") ? 1 : -1;
            ToIntFunction<Facts> one = left;
            ToIntFunction<Facts> other = readProduct(tokens, within);
            left = facts -> one.applyAsInt(facts) + sign * other.applyAsInt(facts);
        }
        return left;
    }

    private ToIntFunction<Facts> readProduct(List<Token> tokens, int within) throws Fault {
        ToIntFunction<Facts> left = readPart(tokens, within);
        while (is(tokens, "*")) {
            tokens.remove(0);
            ToIntFunction<Facts> one = left;
            ToIntFunction<Facts> other = readPart(tokens, within);
            left = facts -> one.applyAsInt(facts) * other.applyAsInt(facts);
        }
        return left;
    }

    private ToIntFunction<Facts> readPart(List<Token> tokens, int within) throws Fault {
        Token first = tokens.remove(0);
        boolean fact = List.of("trunk", "bath", "ill", "here", "gap", "floors", "stove", "moved").contains(first.text);
        boolean other = List.of("not", "(").contains(first.text);
        need(!first.none && (fact || other || first.isNumber()), 1, first);
        need(within < 5, 5, first);
        if (first.isNumber()) {
            int value = Integer.parseInt(first.text);
            return facts -> value;
        }
        if (fact) {
            return facts -> facts.of.get(first.text);
        }
        if (first.text.equals("not")) {
            ToIntFunction<Facts> part = readPart(tokens, within + 1);
            return facts -> part.applyAsInt(facts) == 0 ? 1 : 0;
        }
        ToIntFunction<Facts> all = readE(tokens, within + 1);
        take(tokens, ")");
        return all;
    }

    // ---- rooms and guests

    private Replay real() {
        return new Replay(events, Event::rule);
    }

    private int floor(int room) {
        return room == -1 ? 0 : rooms.get(room).floor;
    }

    private int steps(Going going) {
        return Math.abs(going.from - going.to) + 10 * Math.abs(floor(going.from) - floor(going.to));
    }

    private static boolean isMove(Going going) {
        return going.from != -1 && going.to != -1;
    }

    private boolean isRoom(int room) {
        return room >= 0 && room < rooms.size();
    }

    private boolean isGuest(int guest) {
        return guest >= 0 && guest < guests.size();
    }

    int room(int room, int what) {
        if (!isRoom(room)) {
            return -1;
        }
        return switch (what) {
            case 0 -> rooms.get(room).floor;
            case 1 -> rooms.get(room).stove;
            case 2 -> who(room, 999999);
            default -> -1;
        };
    }

    int guest(int guest, int what) {
        if (!isGuest(guest)) {
            return -1;
        }
        return switch (what) {
            case 0 -> guests.get(guest).trunk;
            case 1 -> guests.get(guest).bath ? 1 : 0;
            case 2 -> guests.get(guest).ill ? 1 : 0;
            case 3 -> where(guest, 999999);
            case 4 -> real().moves(guest);
            case 5 -> real().goings.stream().filter(g -> g.guest == guest).mapToInt(this::steps).sum();
            default -> -1;
        };
    }

    boolean use(int wanted) {
        if (wanted < -1 || wanted >= rules.size()) {
            return false;
        }
        rule = wanted;
        return true;
    }

    int gives(int wanted, int guest, int gap) {
        Replay real = real();
        if (wanted < 0 || wanted >= rules.size() || !real.roomOf.containsKey(guest) || !isRoom(gap)
                || real.roomOf.get(guest) == gap) {
            throw new NoSuchElementException();
        }
        return real.gives(wanted, guest, gap);
    }

    int come(int guest, int minute) {
        return told(guest, minute, true);
    }

    int leave(int guest, int minute) {
        return told(guest, minute, false);
    }

    private int told(int guest, int minute, boolean comes) {
        int last = events.isEmpty() ? 0 : events.get(events.size() - 1).minute;
        Replay real = real();
        if (!isGuest(guest) || rooms.isEmpty()) {
            return 1;
        }
        if (minute < last || minute > 99999) {
            return 2;
        }
        if (real.roomOf.containsKey(guest) == comes) {
            return 3;
        }
        if (comes && real.roomOf.size() == rooms.size()) {
            return 4;
        }
        if (events.size() == 100) {
            return 5;
        }
        events.add(new Event(comes, guest, minute, rule));
        if (comes) {
            booked.remove((Integer) guest);
        }
        return 0;
    }

    int over() {
        return real().over;
    }

    int sum(int what) {
        Replay real = real();
        return switch (what) {
            case 0 -> real.steps();
            case 1 -> real.spilt();
            case 2 -> (int) real.goings.stream().filter(PlainInn::isMove).count();
            case 3 -> real.goings.stream().mapToInt(g -> g.end - g.begin).sum();
            default -> -1;
        };
    }

    // ---- minutes

    private static boolean isMinute(int minute, int most) {
        return minute >= 0 && minute <= most;
    }

    int where(int guest, int minute) {
        if (!isGuest(guest) || !isMinute(minute, 999999)) {
            return -3;
        }
        return whereIn(real(), guest, minute);
    }

    private static int whereIn(Replay real, int guest, int minute) {
        int place = -1;
        for (Going going : real.goings) {
            if (going.guest == guest) {
                if (minute >= going.begin && minute < going.end) {
                    return -2;
                }
                if (minute >= going.end) {
                    place = going.to;
                }
            }
        }
        return place;
    }

    int who(int room, int minute) {
        return isRoom(room) && isMinute(minute, 999999) ? whoIn(real(), room, minute) : -1;
    }

    private int whoIn(Replay real, int room, int minute) {
        for (int guest = 0; guest < guests.size(); guest++) {
            if (whereIn(real, guest, minute) == room) {
                return guest;
            }
        }
        return -1;
    }

    int letter(int guest, int minute, int brought) {
        if (!isGuest(guest) || !isMinute(minute, 999999) || !isMinute(brought, 999999) || brought < minute) {
            return -1;
        }
        int room = where(guest, minute);
        return room < 0 ? -1 : who(room, brought);
    }

    /** Who was there is asked at each minute at which anything may have changed, and at both ends. */
    int trunk(int room, int from, int to) {
        if (!isRoom(room) || !isMinute(from, 999999) || !isMinute(to, 999999) || to < from) {
            return -1;
        }
        Replay real = real();
        List<Integer> minutes = new ArrayList<>(List.of(from, to));
        real.goings.forEach(going -> minutes.addAll(List.of(going.begin - 1, going.begin, going.end - 1, going.end)));
        int found = 0;
        for (int minute : minutes) {
            if (minute >= from && minute <= to && whoIn(real, room, minute) != -1) {
                found |= 1 << whoIn(real, room, minute);
            }
        }
        return found;
    }

    // ---- sightings

    int sight(int guest, int room, int minute) {
        if (!isGuest(guest) || !isRoom(room) || !isMinute(minute, 99999) || sightings.size() == 20) {
            return -1;
        }
        sightings.add(new Sighting(guest, room, minute));
        return sightings.size();
    }

    private boolean bothCanBe(Sighting one, Sighting other) {
        int walk = Math.abs(one.room - other.room) + 2 * Math.abs(floor(one.room) - floor(other.room));
        return walk <= Math.abs(one.minute - other.minute);
    }

    int could(int room, int minute) {
        if (!isRoom(room) || !isMinute(minute, 99999)) {
            return -1;
        }
        int found = 0;
        for (int guest = 0; guest < guests.size(); guest++) {
            Sighting asked = new Sighting(guest, room, minute);
            if (sightings.stream().allMatch(s -> s.guest != asked.guest || bothCanBe(s, asked))) {
                found |= 1 << guest;
            }
        }
        return found;
    }

    int liars() {
        int lies = 0;
        for (int guest = 0; guest < guests.size(); guest++) {
            int asked = guest;
            List<Sighting> own = sightings.stream().filter(s -> s.guest == asked).toList();
            lies += own.size() - mostTrue(own, 0, new ArrayList<>());
        }
        return lies;
    }

    private int mostTrue(List<Sighting> own, int at, List<Sighting> held) {
        if (at == own.size()) {
            return held.size();
        }
        int most = mostTrue(own, at + 1, held);
        if (held.stream().allMatch(s -> bothCanBe(s, own.get(at)))) {
            List<Sighting> more = new ArrayList<>(held);
            more.add(own.get(at));
            most = Math.max(most, mostTrue(own, at + 1, more));
        }
        return most;
    }

    // ---- the register

    int page(int guest, int set) {
        if (!isGuest(guest) || set < 0 || set >= 1 << rooms.size()) {
            return -1;
        }
        if (set == 0) {
            pages.remove(guest);
        } else {
            pages.put(guest, set);
        }
        return pages.size();
    }

    private void allWays(List<Integer> asked, List<Integer> given, List<List<Integer>> found) {
        if (given.size() == asked.size()) {
            found.add(given);
            return;
        }
        for (int room = 0; room < rooms.size(); room++) {
            if ((pages.get(asked.get(given.size())) >> room & 1) == 1 && !given.contains(room)) {
                List<Integer> more = new ArrayList<>(given);
                more.add(room);
                allWays(asked, more, found);
            }
        }
    }

    long ways() {
        List<List<Integer>> found = new ArrayList<>();
        allWays(new ArrayList<>(pages.keySet()), List.of(), found);
        return found.size();
    }

    int sure(int guest) {
        List<List<Integer>> found = new ArrayList<>();
        List<Integer> asked = new ArrayList<>(pages.keySet());
        allWays(asked, List.of(), found);
        int at = asked.indexOf(guest);
        if (at == -1 || found.isEmpty()) {
            return -1;
        }
        int room = found.get(0).get(at);
        return found.stream().allMatch(way -> way.get(at) == room) ? room : -1;
    }

    // ---- porters

    int job(int ahead, int stairs, int behind) {
        if (!isMinute(ahead, 99) || !isMinute(stairs, 99) || stairs == 0 || !isMinute(behind, 99) || jobs.size() == 7) {
            return -1;
        }
        jobs.add(new Job(ahead, stairs, behind));
        return jobs.size();
    }

    /** All orders of what is given, the first ones first. */
    private static List<List<Integer>> orders(List<Integer> all) {
        List<List<Integer>> found = new ArrayList<>();
        if (all.isEmpty()) {
            found.add(List.of());
        }
        for (Integer first : all.stream().sorted().toList()) {
            List<Integer> others = new ArrayList<>(all);
            others.remove(first);
            for (List<Integer> order : orders(others)) {
                List<Integer> whole = new ArrayList<>(List.of(first));
                whole.addAll(order);
                found.add(whole);
            }
        }
        return found;
    }

    /** When each job of an order goes on the stairs. */
    private int[] starts(List<Integer> order) {
        int[] starts = new int[order.size()];
        int free = 0;
        for (int i : order) {
            starts[i] = Math.max(free, jobs.get(i).ahead);
            free = starts[i] + jobs.get(i).stairs;
        }
        return starts;
    }

    private int done(List<Integer> order) {
        int[] starts = starts(order);
        return order.stream().mapToInt(i -> starts[i] + jobs.get(i).stairs + jobs.get(i).behind).max().orElse(-1);
    }

    private List<Integer> asTold() {
        List<Integer> order = new ArrayList<>();
        for (int i = 0; i < jobs.size(); i++) {
            order.add(i);
        }
        return order;
    }

    int porters(int what) {
        if (jobs.isEmpty() || what < 0 || what >= 3 + jobs.size()) {
            return -1;
        }
        List<Integer> best = asTold();
        for (List<Integer> order : orders(asTold())) {
            if (done(order) < done(best)) {
                best = order;
            }
        }
        int[] starts = starts(best);
        return switch (what) {
            case 0 -> done(best);
            case 1 -> best.stream().mapToInt(i -> starts[i] - jobs.get(i).ahead).sum();
            case 2 -> portersNeeded(starts);
            default -> best.get(what - 3);
        };
    }

    /** Jobs are given, as they begin, to a porter who is free, or to a new one. */
    private int portersNeeded(int[] starts) {
        List<Integer> freeAt = new ArrayList<>();
        List<Integer> byBeginning = new ArrayList<>(asTold());
        byBeginning.sort((a, b) -> starts[a] - jobs.get(a).ahead - starts[b] + jobs.get(b).ahead);
        for (int i : byBeginning) {
            int begin = starts[i] - jobs.get(i).ahead;
            freeAt.stream().filter(free -> free <= begin).findFirst().ifPresent(freeAt::remove);
            freeAt.add(starts[i] + jobs.get(i).stairs + jobs.get(i).behind);
        }
        return freeAt.size();
    }

    int told() {
        return jobs.isEmpty() ? -1 : done(asTold());
    }

    boolean clear() {
        sightings.clear();
        jobs.clear();
        return true;
    }

    // ---- orders, rules, marks

    int book(int guest) {
        if (guest < 0) {
            booked.clear();
            return 0;
        }
        if (!isGuest(guest) || real().roomOf.containsKey(guest) || booked.contains(guest) || booked.size() == 7) {
            return -1;
        }
        booked.add(guest);
        return booked.size();
    }

    int order(int guest, int what) {
        Replay real = real();
        if (!isGuest(guest) || booked.isEmpty() || booked.size() > rooms.size() - real.roomOf.size()
                || !real.roomOf.containsKey(guest) && !booked.contains(guest)
                || what < 0 || what >= 2 + booked.size()) {
            return -1;
        }
        List<Integer> best = null;
        int own = 0;
        int baths = 0;
        for (List<Integer> order : orders(booked)) {
            List<Event> more = new ArrayList<>(events);
            order.forEach(one -> more.add(new Event(true, one, 99999, -1)));
            Replay then = new Replay(more, Event::rule);
            int ownNow = then.moves(guest) - real.moves(guest);
            int bathsNow = then.spilt() - real.spilt();
            if (best == null || ownNow < own || ownNow == own && bathsNow < baths) {
                best = order;
                own = ownNow;
                baths = bathsNow;
            }
        }
        return what == 0 ? own : what == 1 ? baths : best.get(what - 2);
    }

    int tried(int wanted, int what) {
        if (wanted < -1 || wanted >= rules.size()) {
            return -1;
        }
        Replay replay = new Replay(events, event -> wanted);
        return switch (what) {
            case 0 -> replay.steps();
            case 1 -> replay.spilt();
            case 2 -> replay.spread();
            default -> -1;
        };
    }

    int best() {
        int best = -1;
        for (int i = rules.size() - 1; i >= 0; i--) {
            if (best == -1 || tried(i, 0) < tried(best, 0)
                    || tried(i, 0) == tried(best, 0) && tried(i, 1) <= tried(best, 1)) {
                best = i;
            }
        }
        return best;
    }

    boolean mark(int mark, boolean back) {
        if (mark < 0 || mark > 3 || back && !marks.containsKey(mark)) {
            return false;
        }
        if (back) {
            copyFrom(marks.get(mark));
        } else {
            PlainInn held = new PlainInn();
            held.copyFrom(this);
            marks.put(mark, held);
        }
        return true;
    }

    private void copyFrom(PlainInn other) {
        rule = other.rule;
        events = new ArrayList<>(other.events);
        sightings = new ArrayList<>(other.sightings);
        pages = new HashMap<>(other.pages);
        jobs = new ArrayList<>(other.jobs);
        booked = new ArrayList<>(other.booked);
    }

    int count(int what) {
        return switch (what) {
            case 0 -> rooms.size();
            case 1 -> guests.size();
            case 2 -> rules.size();
            case 3 -> real().roomOf.size();
            case 4 -> rule;
            case 5 -> sightings.size();
            case 6 -> pages.size();
            case 7 -> jobs.size();
            case 8 -> booked.size();
            case 9 -> events.size();
            case 10 -> tape.length();
            default -> -1;
        };
    }
}
