import java.util.Arrays;
import java.util.NoSuchElementException;

/** An inn in which all move one room on; the numbered promises of DOC.md say what each call does. */
public final class MoveInn {
    public static final int NONE = -1;

    private static final int SIGNS_MOST = 1000;
    private static final int ROOMS_MOST = 10;
    private static final int GUESTS_MOST = 10;
    private static final int RULES_MOST = 4;
    private static final int CAME_AND_LEFT_MOST = 100;
    private static final int SIGHTINGS_MOST = 20;
    private static final int JOBS_MOST = 7;
    private static final int JOB_MINUTES_MOST = 99;
    private static final int BOOKED_MOST = 7;
    private static final int MARKS_MOST = 4;
    private static final int MINUTE_TOLD_MOST = 99999;
    private static final int MINUTE_ASKED_MOST = 999999;

    /** The door counts as the room ahead of room 0, so that the steps from it are a difference of numbers, too. */
    private static final int DOOR = -1;
    private static final int ON_STAIRS = -2;
    private static final int NO_PLACE = -3;

    private final Tape tape = new Tape();
    private final InnReader reader = new InnReader(tape);
    private final RuleMachine machine = new RuleMachine();
    private final State state = new State(machine);
    private final State[] marks = new State[MARKS_MOST];
    private final PorterPlan plan = new PorterPlan();
    private final House arrivalTrial = new House();
    private final int[] arrivalTurn = new int[BOOKED_MOST];
    private final int[] waysRow = new int[1 << ROOMS_MOST];
    private Inn current = new Inn();
    private Inn draft = new Inn();
    private int marksLaid;

    public MoveInn() {
    }

    public int feed(long a, long b, long c) {
        tape.append(a);
        tape.append(b);
        tape.append(c);
        return tape.length();
    }

    public int inn() {
        int fault = reader.readInto(draft);
        tape.empty();
        if (fault != 0) {
            return fault;
        }
        Inn before = current;
        current = draft;
        draft = before;
        state.reset(current.rules > 0 ? 0 : NONE);
        marksLaid = 0;
        return 0;
    }

    public int room(int room, int what) {
        if (!isRoom(room)) {
            return NONE;
        }
        switch (what) {
            case 0:
                return current.floors[room];
            case 1:
                return current.stoves[room];
            case 2:
                return state.house.occupants[room];
            default:
                return NONE;
        }
    }

    public int guest(int guest, int what) {
        if (!isGuest(guest)) {
            return NONE;
        }
        switch (what) {
            case 0:
                return current.trunks[guest];
            case 1:
                return bitOf(current.baths, guest);
            case 2:
                return bitOf(current.ills, guest);
            case 3:
                return state.house.roomOf[guest];
            case 4:
                return state.house.moves[guest];
            case 5:
                return state.house.steps[guest];
            default:
                return NONE;
        }
    }

    public boolean use(int rule) {
        if (rule != NONE && !isRule(rule)) {
            return false;
        }
        state.ruleInUse = rule;
        return true;
    }

    public int gives(int rule, int guest, int gap) throws NoSuchElementException {
        if (!isRule(rule) || !isGuest(guest) || !isRoom(gap)) {
            throw new NoSuchElementException("no such rule, guest or room");
        }
        int here = state.house.roomOf[guest];
        if (here == NONE || here == gap) {
            throw new NoSuchElementException("the guest is out, or in the gap");
        }
        return machine.value(current, rule, state.house, guest, gap);
    }

    public int come(int guest, int minute) {
        int why = whyRefused(guest, minute, true);
        if (why == 0) {
            state.takeIn(current, guest, minute);
        }
        return why;
    }

    public int leave(int guest, int minute) {
        int why = whyRefused(guest, minute, false);
        if (why == 0) {
            state.letOut(current, guest, minute);
        }
        return why;
    }

    public int over() {
        return state.diary.end;
    }

    public int sum(int what) {
        switch (what) {
            case 0:
                return state.house.stepsInAll;
            case 1:
                return state.house.spilt;
            case 2:
                return state.house.movesInAll;
            case 3:
                return state.house.minutesInAll;
            default:
                return NONE;
        }
    }

    public int where(int guest, int minute) {
        if (!isGuest(guest) || !isAskedMinute(minute)) {
            return NO_PLACE;
        }
        return state.diary.placeOf(guest, minute);
    }

    public int who(int room, int minute) {
        if (!isRoom(room) || !isAskedMinute(minute)) {
            return NONE;
        }
        return state.diary.occupantOf(room, minute);
    }

    public int letter(int guest, int minute, int brought) {
        if (!isGuest(guest) || !isAskedMinute(minute) || !isAskedMinute(brought) || brought < minute) {
            return NONE;
        }
        int room = state.diary.placeOf(guest, minute);
        return isRoom(room) ? state.diary.occupantOf(room, brought) : NONE;
    }

    public int trunk(int room, int from, int to) {
        if (!isRoom(room) || !isAskedMinute(from) || !isAskedMinute(to) || to < from) {
            return NONE;
        }
        return state.diary.occupantsWithin(room, from, to);
    }

    public int sight(int guest, int room, int minute) {
        if (!isGuest(guest) || !isRoom(room) || !isToldMinute(minute)) {
            return NONE;
        }
        return state.sightings.add(guest, room, minute) ? state.sightings.size : NONE;
    }

    public int could(int room, int minute) {
        if (!isRoom(room) || !isToldMinute(minute)) {
            return NONE;
        }
        return state.sightings.possibleIn(current, room, minute);
    }

    public int liars() {
        return state.sightings.fewestFalse(current);
    }

    public int page(int guest, int set) {
        if (!isGuest(guest) || set < 0 || set >= 1 << current.rooms) {
            return NONE;
        }
        state.register.sets[guest] = set;
        return state.register.pages();
    }

    public long ways() {
        return state.register.waysInAll(waysRow, current.rooms);
    }

    public int sure(int guest) {
        return isGuest(guest) ? state.register.onlyRoomOf(guest, waysRow, current.rooms) : NONE;
    }

    public int job(int ahead, int stairs, int behind) {
        if (!isJobPart(ahead) || !isJobPart(stairs) || stairs == 0 || !isJobPart(behind)) {
            return NONE;
        }
        return state.jobs.add(ahead, stairs, behind) ? state.jobs.size : NONE;
    }

    public int porters(int what) {
        if (state.jobs.size == 0 || what < 0 || what >= 3 + state.jobs.size) {
            return NONE;
        }
        plan.make(state.jobs);
        switch (what) {
            case 0:
                return plan.done;
            case 1:
                return plan.waits();
            case 2:
                return plan.portersNeeded();
            default:
                return plan.turn[what - 3];
        }
    }

    public int told() {
        return state.jobs.size == 0 ? NONE : state.jobs.doneAsTold();
    }

    public boolean clear() {
        state.sightings.size = 0;
        state.jobs.size = 0;
        return true;
    }

    public int book(int guest) {
        if (guest < 0) {
            state.booked = 0;
            return 0;
        }
        if (!isGuest(guest) || state.house.isIn(guest) || bitOf(state.booked, guest) == 1) {
            return NONE;
        }
        if (Integer.bitCount(state.booked) >= BOOKED_MOST) {
            return NONE;
        }
        state.booked |= 1 << guest;
        return Integer.bitCount(state.booked);
    }

    public int order(int guest, int what) {
        int coming = Integer.bitCount(state.booked);
        if (!isGuest(guest) || what < 0 || what >= 2 + coming) {
            return NONE;
        }
        if (coming == 0 || coming > current.rooms - state.house.guestsIn()) {
            return NONE;
        }
        if (!state.house.isIn(guest) && bitOf(state.booked, guest) == 0) {
            return NONE;
        }
        planArrivals(guest);
        return what >= 2 ? arrivalTurn[what - 2] : movesByArrivals(guest, coming, what == 1);
    }

    public int tried(int rule, int what) {
        if (rule != NONE && !isRule(rule)) {
            return NONE;
        }
        House trial = state.trialOf(rule);
        switch (what) {
            case 0:
                return trial.stepsInAll;
            case 1:
                return trial.spilt;
            case 2:
                return trial.spreadOfMoves();
            default:
                return NONE;
        }
    }

    public int best() {
        int best = NONE;
        for (int rule = 0; rule < current.rules; rule++) {
            if (best == NONE || state.trialOf(rule).isBetterThan(state.trialOf(best))) {
                best = rule;
            }
        }
        return best;
    }

    public boolean mark(int mark, boolean back) {
        if (mark < 0 || mark >= MARKS_MOST) {
            return false;
        }
        if (back) {
            return goBackTo(mark);
        }
        if (marks[mark] == null) {
            marks[mark] = new State(machine);
        }
        marks[mark].copyFrom(state);
        marksLaid |= 1 << mark;
        return true;
    }

    public int count(int what) {
        switch (what) {
            case 0:
                return current.rooms;
            case 1:
                return current.guests;
            case 2:
                return current.rules;
            case 3:
                return state.house.guestsIn();
            case 4:
                return state.ruleInUse;
            case 5:
                return state.sightings.size;
            case 6:
                return state.register.pages();
            case 7:
                return state.jobs.size;
            case 8:
                return Integer.bitCount(state.booked);
            case 9:
                return state.cameAndLeft;
            case 10:
                return tape.length();
            default:
                return NONE;
        }
    }

    private int whyRefused(int guest, int minute, boolean comes) {
        if (!isGuest(guest) || current.rooms == 0) {
            return 1;
        }
        if (!isToldMinute(minute) || minute < state.lastMinute) {
            return 2;
        }
        if (state.house.isIn(guest) == comes) {
            return 3;
        }
        if (comes && state.house.guestsIn() >= current.rooms) {
            return 4;
        }
        return state.cameAndLeft >= CAME_AND_LEFT_MOST ? 5 : 0;
    }

    /**
     * Whoever comes is moved once by each who comes behind, and those who are in move alike in all orders.
     * So the one asked for comes last, guests with a bath late, and all else by numbers.
     */
    private void planArrivals(int asked) {
        int others = state.booked & ~(1 << asked);
        int planned = addArrivals(others & ~current.baths, 0);
        planned = addArrivals(others & current.baths, planned);
        addArrivals(state.booked & ~others, planned);
    }

    private int addArrivals(int guests, int planned) {
        int at = planned;
        for (int guest = 0; guest < GUESTS_MOST; guest++) {
            if (bitOf(guests, guest) == 1 && at < BOOKED_MOST) {
                arrivalTurn[at] = guest;
                at++;
            }
        }
        return at;
    }

    /** How often the one asked for is moved or, if so wanted, all guests with a bath. */
    private int movesByArrivals(int asked, int coming, boolean ofBaths) {
        House house = state.house;
        arrivalTrial.copyFrom(house);
        for (int i = 0; i < coming && i < BOOKED_MOST; i++) {
            arrivalTrial.takeIn(current, arrivalTurn[i], null);
        }
        return ofBaths ? arrivalTrial.spilt - house.spilt : arrivalTrial.moves[asked] - house.moves[asked];
    }

    private boolean goBackTo(int mark) {
        if (bitOf(marksLaid, mark) == 0 || marks[mark] == null) {
            return false;
        }
        state.copyFrom(marks[mark]);
        return true;
    }

    private boolean isRoom(int room) {
        return room >= 0 && room < current.rooms;
    }

    private boolean isGuest(int guest) {
        return guest >= 0 && guest < current.guests;
    }

    private boolean isRule(int rule) {
        return rule >= 0 && rule < current.rules;
    }

    private static boolean isToldMinute(int minute) {
        return minute >= 0 && minute <= MINUTE_TOLD_MOST;
    }

    private static boolean isAskedMinute(int minute) {
        return minute >= 0 && minute <= MINUTE_ASKED_MOST;
    }

    private static boolean isJobPart(int minutes) {
        return minutes >= 0 && minutes <= JOB_MINUTES_MOST;
    }

    private static int bitOf(int bits, int at) {
        return bits >> at & 1;
    }

    /** The signs that were fed and not read yet, and the token at which a reader of them stands. */
    private static final class Tape {
        static final int END = 0;
        static final int WORD = 1;
        static final int NUMBER = 2;
        static final int NO_TOKEN = 3;
        private static final int WORD_LETTERS_MOST = 8;
        private static final int NUMBER_DIGITS_MOST = 4;

        private final byte[] signs = new byte[SIGNS_MOST];
        private int fed;

        /** One of the four above or, for a sign that is a token by itself, that sign. */
        int kind;
        int place;
        int number;
        /** A word's letters as one number, so that two words are compared at once. */
        long name;
        private int next;

        int length() {
            return fed;
        }

        void empty() {
            fed = 0;
        }

        void append(long eightSigns) {
            for (int shift = 56; shift >= 0; shift -= 8) {
                int sign = (int) (eightSigns >>> shift) & 255;
                if (isSign(sign) && fed < SIGNS_MOST) {
                    signs[fed] = (byte) sign;
                    fed++;
                }
            }
        }

        void goToFirstToken() {
            next = 0;
            advance();
        }

        void advance() {
            while (next < fed && isBlank(signs[next])) {
                next++;
            }
            place = next;
            name = 0;
            while (next < fed && isLetter(signs[next])) {
                name = name * 32 + (signs[next] - 'a' + 1);
                next++;
            }
            if (next > place) {
                kind = next - place <= WORD_LETTERS_MOST ? WORD : NO_TOKEN;
                return;
            }
            number = 0;
            while (next < fed && isDigit(signs[next])) {
                number = number * 10 + (signs[next] - '0');
                next++;
            }
            if (next > place) {
                kind = next - place <= NUMBER_DIGITS_MOST ? NUMBER : NO_TOKEN;
                return;
            }
            kind = next < fed ? ownKind(signs[next]) : END;
            next = Math.min(next + 1, fed);
        }

        boolean isWord(String wanted) {
            int length = next - place;
            if (kind != WORD || wanted.length() != length) {
                return false;
            }
            for (int i = 0; i < length; i++) {
                if (signs[place + i] != wanted.charAt(i)) {
                    return false;
                }
            }
            return true;
        }

        private static int ownKind(int sign) {
            switch (sign) {
                case '(':
                case ')':
                case '<':
                case '=':
                case '+':
                case '-':
                case '*':
                case ';':
                    return sign;
                default:
                    return NO_TOKEN;
            }
        }

        private static boolean isSign(int sign) {
            return sign == 10 || sign >= 32 && sign <= 126;
        }

        private static boolean isBlank(int sign) {
            return sign == 10 || sign == 32;
        }

        private static boolean isLetter(int sign) {
            return sign >= 'a' && sign <= 'z';
        }

        private static boolean isDigit(int sign) {
            return sign >= '0' && sign <= '9';
        }
    }

    /** What was told of rooms, guests and rules; rules stand behind one another in one row of codes. */
    private static final class Inn {
        /** Codes below this are numbers themselves: a number has four digits at most. */
        static final int FACTS_FROM = 10000;
        static final int TRUNK = FACTS_FROM;
        static final int BATH = FACTS_FROM + 1;
        static final int ILL = FACTS_FROM + 2;
        static final int HERE = FACTS_FROM + 3;
        static final int GAP = FACTS_FROM + 4;
        static final int FLOORS = FACTS_FROM + 5;
        static final int STOVE = FACTS_FROM + 6;
        static final int MOVED = FACTS_FROM + 7;
        static final int DEEDS_FROM = FACTS_FROM + 8;
        static final int NOT = DEEDS_FROM;
        static final int AND = DEEDS_FROM + 1;
        static final int OR = DEEDS_FROM + 2;
        static final int LESS = DEEDS_FROM + 3;
        static final int EQUAL = DEEDS_FROM + 4;
        static final int PLUS = DEEDS_FROM + 5;
        static final int MINUS = DEEDS_FROM + 6;
        static final int TIMES = DEEDS_FROM + 7;

        int rooms;
        int guests;
        int rules;
        int baths;
        int ills;
        final int[] floors = new int[ROOMS_MOST];
        final int[] stoves = new int[ROOMS_MOST];
        final int[] trunks = new int[GUESTS_MOST];
        private final long[] names = new long[GUESTS_MOST];
        /** Each code took at least one sign on the tape. */
        final int[] codes = new int[SIGNS_MOST];
        /** Rule r has the codes from ends[r] to ends[r + 1]. */
        final int[] ends = new int[RULES_MOST + 1];
        private int codesTold;

        void forget() {
            rooms = 0;
            guests = 0;
            rules = 0;
            baths = 0;
            ills = 0;
            codesTold = 0;
        }

        void addRoom(int floor, int stove) {
            if (rooms < ROOMS_MOST) {
                floors[rooms] = floor;
                stoves[rooms] = stove;
                rooms++;
            }
        }

        void addGuest(long name, int size, boolean bath, boolean ill) {
            if (guests < GUESTS_MOST) {
                names[guests] = name;
                trunks[guests] = size;
                baths |= bath ? 1 << guests : 0;
                ills |= ill ? 1 << guests : 0;
                guests++;
            }
        }

        boolean hasName(long name) {
            for (int i = 0; i < guests; i++) {
                if (names[i] == name) {
                    return true;
                }
            }
            return false;
        }

        void addCode(int code) {
            if (codesTold < codes.length) {
                codes[codesTold] = code;
                codesTold++;
            }
        }

        void endRule() {
            if (rules < RULES_MOST) {
                rules++;
                ends[rules] = codesTold;
            }
        }

        int floorsBetween(int one, int other) {
            return Math.abs(floorOf(one) - floorOf(other));
        }

        int walkBetween(int one, int other) {
            return Math.abs(one - other) + 2 * floorsBetween(one, other);
        }

        int stepsBetween(int one, int other) {
            return Math.abs(one - other) + 10 * floorsBetween(one, other);
        }

        int minutesNeeded(int guest, int from, int to) {
            return 1 + 2 * floorsBetween(from, to) + trunks[guest] / 10;
        }

        private int floorOf(int room) {
            return room >= 0 && room < rooms ? floors[room] : 0;
        }
    }

    /** Reads the tape into an inn, from the left to the first token that is wrong. */
    private static final class InnReader {
        private static final int CANNOT_STAND = 1;
        private static final int TWICE = 3;
        private static final int NUMBER_NOT_AS_TOLD = 4;
        private static final int ONE_TOO_MANY = 5;
        private static final int WITHIN_MOST = 5;
        private static final int COMPARING = 1;
        private static final int PARTS = 4;

        private final Tape tape;
        private Inn inn;
        private int fault;

        InnReader(Tape tape) {
            this.tape = tape;
        }

        /** The fault, or 0; with a fault the inn is not to be used. */
        int readInto(Inn empty) {
            inn = empty;
            inn.forget();
            fault = 0;
            tape.goToFirstToken();
            for (int read = 0; read < SIGNS_MOST && tape.kind != Tape.END; read++) {
                boolean right = tape.isWord("room") ? readRoom()
                        : tape.isWord("guest") ? readGuest()
                        : tape.isWord("rule") ? readRule()
                        : isWrong(CANNOT_STAND);
                if (!right || !takeSign(';')) {
                    return fault;
                }
            }
            return 0;
        }

        private boolean readRoom() {
            if (inn.rooms == ROOMS_MOST) {
                return isWrong(ONE_TOO_MANY);
            }
            tape.advance();
            int floor = takeNumber(9);
            if (floor == NONE) {
                return false;
            }
            int stove = takeNumber(1);
            if (stove == NONE) {
                return false;
            }
            inn.addRoom(floor, stove);
            return true;
        }

        private boolean readGuest() {
            if (inn.guests == GUESTS_MOST) {
                return isWrong(ONE_TOO_MANY);
            }
            tape.advance();
            if (tape.kind != Tape.WORD || isKept()) {
                return isWrong(CANNOT_STAND);
            }
            long name = tape.name;
            if (inn.hasName(name)) {
                return isWrong(TWICE);
            }
            tape.advance();
            if (!tape.isWord("trunk")) {
                return isWrong(CANNOT_STAND);
            }
            tape.advance();
            int size = takeNumber(99);
            return size != NONE && readExtras(name, size);
        }

        private boolean readExtras(long name, int size) {
            boolean bath = false;
            boolean ill = false;
            // A third one can only be one of the two again.
            for (int extra = 0; extra < 3; extra++) {
                boolean isBath = tape.isWord("bath");
                if (!isBath && !tape.isWord("ill")) {
                    break;
                }
                if (isBath ? bath : ill) {
                    return isWrong(TWICE);
                }
                bath |= isBath;
                ill |= !isBath;
                tape.advance();
            }
            inn.addGuest(name, size, bath, ill);
            return true;
        }

        private boolean readRule() {
            if (inn.rules == RULES_MOST) {
                return isWrong(ONE_TOO_MANY);
            }
            tape.advance();
            if (!readLevel(0, 0)) {
                return false;
            }
            inn.endRule();
            return true;
        }

        /** Levels: 0 and, or; 1 comparing; 2 plus and minus; 3 times; 4 parts, each made of the next one. */
        private boolean readLevel(int level, int within) {
            if (level >= PARTS) {
                return readPart(within);
            }
            if (!readLevel(level + 1, within)) {
                return false;
            }
            int most = level == COMPARING ? 1 : SIGNS_MOST;
            for (int joined = 0; joined < most; joined++) {
                int deed = deedAt(level);
                if (deed == NONE) {
                    return true;
                }
                tape.advance();
                if (!readLevel(level + 1, within)) {
                    return false;
                }
                inn.addCode(deed);
            }
            return true;
        }

        private boolean readPart(int within) {
            boolean not = tape.isWord("not");
            int fact = tape.kind == Tape.NUMBER ? tape.number : factHere();
            if (!not && tape.kind != '(' && fact == NONE) {
                return isWrong(CANNOT_STAND);
            }
            if (within >= WITHIN_MOST) {
                return isWrong(ONE_TOO_MANY);
            }
            boolean bracket = tape.kind == '(';
            tape.advance();
            if (bracket) {
                return readLevel(0, within + 1) && takeSign(')');
            }
            if (not && !readPart(within + 1)) {
                return false;
            }
            inn.addCode(not ? Inn.NOT : fact);
            return true;
        }

        private int deedAt(int level) {
            switch (level) {
                case 0:
                    return tape.isWord("and") ? Inn.AND : tape.isWord("or") ? Inn.OR : NONE;
                case COMPARING:
                    return tape.kind == '<' ? Inn.LESS : tape.kind == '=' ? Inn.EQUAL : NONE;
                case 2:
                    return tape.kind == '+' ? Inn.PLUS : tape.kind == '-' ? Inn.MINUS : NONE;
                default:
                    return tape.kind == '*' ? Inn.TIMES : NONE;
            }
        }

        private int factHere() {
            if (tape.isWord("trunk")) {
                return Inn.TRUNK;
            }
            if (tape.isWord("bath")) {
                return Inn.BATH;
            }
            if (tape.isWord("ill")) {
                return Inn.ILL;
            }
            if (tape.isWord("here")) {
                return Inn.HERE;
            }
            if (tape.isWord("gap")) {
                return Inn.GAP;
            }
            if (tape.isWord("floors")) {
                return Inn.FLOORS;
            }
            if (tape.isWord("stove")) {
                return Inn.STOVE;
            }
            return tape.isWord("moved") ? Inn.MOVED : NONE;
        }

        /** Whether the word can't be a guest's name. */
        private boolean isKept() {
            return tape.isWord("room") || tape.isWord("guest") || tape.isWord("trunk")
                    || tape.isWord("bath") || tape.isWord("ill") || tape.isWord("rule")
                    || tape.isWord("not") || tape.isWord("and") || tape.isWord("or");
        }

        private int takeNumber(int most) {
            if (tape.kind != Tape.NUMBER) {
                isWrong(CANNOT_STAND);
                return NONE;
            }
            int number = tape.number;
            if (number > most) {
                isWrong(NUMBER_NOT_AS_TOLD);
                return NONE;
            }
            tape.advance();
            return number;
        }

        private boolean takeSign(int sign) {
            if (tape.kind != sign) {
                return isWrong(CANNOT_STAND);
            }
            tape.advance();
            return true;
        }

        /** Always false, so that a reading method can end with it. */
        private boolean isWrong(int kind) {
            fault = kind + 16 * tape.place;
            return false;
        }
    }

    /** Works out what a rule gives. */
    private static final class RuleMachine {
        /** Within four brackets each of the four kinds of joining may wait once at each level. */
        private static final int WAITING_MOST = 32;

        private final int[] waiting = new int[WAITING_MOST];
        private int waitingNow;
        private final int[] facts = new int[Inn.DEEDS_FROM - Inn.FACTS_FROM];

        int value(Inn inn, int rule, House house, int guest, int gap) {
            int here = house.roomOf[guest];
            setFact(Inn.TRUNK, inn.trunks[guest]);
            setFact(Inn.BATH, bitOf(inn.baths, guest));
            setFact(Inn.ILL, bitOf(inn.ills, guest));
            setFact(Inn.HERE, here);
            setFact(Inn.GAP, gap);
            setFact(Inn.FLOORS, inn.floorsBetween(here, gap));
            setFact(Inn.STOVE, inn.stoves[gap]);
            setFact(Inn.MOVED, house.moves[guest]);
            waitingNow = 0;
            for (int at = inn.ends[rule]; at < inn.ends[rule + 1]; at++) {
                take(inn.codes[at]);
            }
            return pop();
        }

        private void setFact(int fact, int value) {
            facts[fact - Inn.FACTS_FROM] = value;
        }

        private void take(int code) {
            if (code < Inn.FACTS_FROM) {
                push(code);
            } else if (code < Inn.DEEDS_FROM) {
                push(facts[code - Inn.FACTS_FROM]);
            } else if (code == Inn.NOT) {
                push(oneIf(pop() == 0));
            } else {
                int right = pop();
                int left = pop();
                push(joined(code, left, right));
            }
        }

        private static int joined(int deed, int left, int right) {
            switch (deed) {
                case Inn.AND:
                    return oneIf(left != 0 && right != 0);
                case Inn.OR:
                    return oneIf(left != 0 || right != 0);
                case Inn.LESS:
                    return oneIf(left < right);
                case Inn.EQUAL:
                    return oneIf(left == right);
                case Inn.PLUS:
                    return left + right;
                case Inn.MINUS:
                    return left - right;
                default:
                    return left * right;
            }
        }

        private static int oneIf(boolean so) {
            return so ? 1 : 0;
        }

        private void push(int value) {
            if (waitingNow < WAITING_MOST) {
                waiting[waitingNow] = value;
                waitingNow++;
            }
        }

        private int pop() {
            if (waitingNow == 0) {
                return 0;
            }
            waitingNow--;
            return waiting[waitingNow];
        }
    }

    /** Who is in which room when all chains are over, and what it took to get there. */
    private static final class House {
        final int[] occupants = new int[ROOMS_MOST];
        final int[] roomOf = new int[GUESTS_MOST];
        final int[] moves = new int[GUESTS_MOST];
        final int[] steps = new int[GUESTS_MOST];
        int stepsInAll;
        int spilt;
        int movesInAll;
        int minutesInAll;
        private int in;
        private int everIn;

        House() {
            Arrays.fill(occupants, NONE);
            Arrays.fill(roomOf, NONE);
        }

        void empty() {
            Arrays.fill(occupants, NONE);
            Arrays.fill(roomOf, NONE);
            Arrays.fill(moves, 0);
            Arrays.fill(steps, 0);
            stepsInAll = 0;
            spilt = 0;
            movesInAll = 0;
            minutesInAll = 0;
            in = 0;
            everIn = 0;
        }

        void copyFrom(House other) {
            System.arraycopy(other.occupants, 0, occupants, 0, ROOMS_MOST);
            System.arraycopy(other.roomOf, 0, roomOf, 0, GUESTS_MOST);
            System.arraycopy(other.moves, 0, moves, 0, GUESTS_MOST);
            System.arraycopy(other.steps, 0, steps, 0, GUESTS_MOST);
            stepsInAll = other.stepsInAll;
            spilt = other.spilt;
            movesInAll = other.movesInAll;
            minutesInAll = other.minutesInAll;
            in = other.in;
            everIn = other.everIn;
        }

        boolean isIn(int guest) {
            return roomOf[guest] != NONE;
        }

        int guestsIn() {
            return in;
        }

        /** Into a diary only what really happens is written; a trial has none (null). */
        void takeIn(Inn inn, int guest, Diary diary) {
            int gap = 0;
            while (gap < inn.rooms && occupants[gap] != NONE) {
                gap++;
            }
            if (gap == inn.rooms) {
                return;
            }
            for (int to = gap; to > 0; to--) {
                go(inn, occupants[to - 1], to, diary);
            }
            go(inn, guest, 0, diary);
            in++;
            everIn |= 1 << guest;
        }

        void letOut(Inn inn, int guest, int rule, RuleMachine machine, Diary diary) {
            int gap = roomOf[guest];
            go(inn, guest, DOOR, diary);
            in--;
            if (rule == NONE) {
                return;
            }
            for (int filled = 0; filled < inn.rooms; filled++) {
                int next = nextFor(inn, gap, rule, machine);
                if (next == NONE) {
                    return;
                }
                int left = roomOf[next];
                go(inn, next, gap, diary);
                gap = left;
            }
        }

        int spreadOfMoves() {
            int most = NONE;
            int fewest = NONE;
            for (int guest = 0; guest < GUESTS_MOST; guest++) {
                if (bitOf(everIn, guest) == 1) {
                    most = Math.max(most, moves[guest]);
                    fewest = fewest == NONE ? moves[guest] : Math.min(fewest, moves[guest]);
                }
            }
            return most - fewest;
        }

        boolean isBetterThan(House other) {
            return stepsInAll < other.stepsInAll || stepsInAll == other.stepsInAll && spilt < other.spilt;
        }

        private int nextFor(Inn inn, int gap, int rule, RuleMachine machine) {
            int next = NONE;
            int most = 0;
            for (int room = gap + 1; room < inn.rooms; room++) {
                int guest = occupants[room];
                if (guest != NONE) {
                    int given = machine.value(inn, rule, this, guest, gap);
                    if (given > most) {
                        most = given;
                        next = guest;
                    }
                }
            }
            return next;
        }

        private void go(Inn inn, int guest, int to, Diary diary) {
            int from = roomOf[guest];
            int stepsNow = inn.stepsBetween(from, to);
            int minutes = inn.minutesNeeded(guest, from, to);
            if (from != DOOR) {
                occupants[from] = NONE;
            }
            if (to != DOOR) {
                occupants[to] = guest;
            }
            roomOf[guest] = to;
            steps[guest] += stepsNow;
            stepsInAll += stepsNow;
            minutesInAll += minutes;
            if (from != DOOR && to != DOOR) {
                moves[guest]++;
                movesInAll++;
                spilt += bitOf(inn.baths, guest);
            }
            if (diary != null) {
                diary.write(guest, from, to, minutes);
            }
        }
    }

    /** Every going from a place to another one, by time: one begins when the one before is over, or later. */
    private static final class Diary {
        private static final int GOINGS_MOST = CAME_AND_LEFT_MOST * ROOMS_MOST;

        /** One number a going (guest, from, to, minutes, begin): a mark copies them all. */
        private final long[] goings = new long[GOINGS_MOST];
        private int written;
        int end;

        void empty() {
            written = 0;
            end = 0;
        }

        void copyFrom(Diary other) {
            System.arraycopy(other.goings, 0, goings, 0, other.written);
            written = other.written;
            end = other.end;
        }

        void beginChain(int minute) {
            end = Math.max(end, minute);
        }

        void write(int guest, int from, int to, int minutes) {
            if (written < GOINGS_MOST) {
                long places = (guest * 16 + (from - DOOR)) * 16 + (to - DOOR);
                goings[written] = ((long) end * 256 + minutes) * 4096 + places;
                written++;
                end += minutes;
            }
        }

        int placeOf(int guest, int minute) {
            for (int at = written - 1; at >= 0; at--) {
                if (guestAt(at) == guest && beginAt(at) <= minute) {
                    return endAt(at) <= minute ? toAt(at) : ON_STAIRS;
                }
            }
            return DOOR;
        }

        int occupantOf(int room, int minute) {
            for (int at = written - 1; at >= 0; at--) {
                if (toAt(at) == room && endAt(at) <= minute) {
                    return guestAt(at);
                }
                if (fromAt(at) == room && beginAt(at) <= minute) {
                    return NONE;
                }
            }
            return NONE;
        }

        /** As bits, all who were in the room at a minute from first to last. */
        int occupantsWithin(int room, int first, int last) {
            int found = 0;
            int occupant = NONE;
            int since = 0;
            for (int at = 0; at < written && beginAt(at) <= last; at++) {
                if (fromAt(at) == room) {
                    found |= bitIfStayed(occupant, since, beginAt(at), first);
                    occupant = NONE;
                } else if (toAt(at) == room) {
                    occupant = guestAt(at);
                    since = endAt(at);
                }
            }
            return found | bitIfStayed(occupant, since, last + 1, first);
        }

        /** Who is sent on at the very minute of coming was never in the room. */
        private static int bitIfStayed(int occupant, int since, int gone, int first) {
            return occupant != NONE && since < gone && gone > first ? 1 << occupant : 0;
        }

        private int guestAt(int at) {
            return (int) (goings[at] >> 8) & 15;
        }

        private int fromAt(int at) {
            return ((int) (goings[at] >> 4) & 15) + DOOR;
        }

        private int toAt(int at) {
            return ((int) goings[at] & 15) + DOOR;
        }

        private int beginAt(int at) {
            return (int) (goings[at] >> 20);
        }

        private int endAt(int at) {
            return beginAt(at) + ((int) (goings[at] >> 12) & 255);
        }
    }

    /** Who was seen where; the rows are kept in the order of minutes. */
    private static final class Sightings {
        private final int[] guests = new int[SIGHTINGS_MOST];
        private final int[] rooms = new int[SIGHTINGS_MOST];
        private final int[] minutes = new int[SIGHTINGS_MOST];
        private final int[] chains = new int[SIGHTINGS_MOST];
        private final int[] longest = new int[GUESTS_MOST];
        int size;

        void copyFrom(Sightings other) {
            System.arraycopy(other.guests, 0, guests, 0, SIGHTINGS_MOST);
            System.arraycopy(other.rooms, 0, rooms, 0, SIGHTINGS_MOST);
            System.arraycopy(other.minutes, 0, minutes, 0, SIGHTINGS_MOST);
            size = other.size;
        }

        boolean add(int guest, int room, int minute) {
            if (size >= SIGHTINGS_MOST) {
                return false;
            }
            int at = size;
            for (; at > 0 && minutes[at - 1] > minute; at--) {
                guests[at] = guests[at - 1];
                rooms[at] = rooms[at - 1];
                minutes[at] = minutes[at - 1];
            }
            guests[at] = guest;
            rooms[at] = room;
            minutes[at] = minute;
            size++;
            return true;
        }

        int possibleIn(Inn inn, int room, int minute) {
            int possible = (1 << inn.guests) - 1;
            for (int i = 0; i < size; i++) {
                if (!isInReach(inn, i, room, minute)) {
                    possible &= ~(1 << guests[i]);
                }
            }
            return possible;
        }

        /**
         * Walks keep to the triangle's law: sightings can all be so if, by minutes, each can with the next one.
         * So the most of a guest that can be true are the longest such chain.
         */
        int fewestFalse(Inn inn) {
            Arrays.fill(longest, 0);
            int mostTrue = 0;
            for (int i = 0; i < size; i++) {
                chains[i] = 1;
                for (int before = 0; before < i; before++) {
                    if (guests[before] == guests[i] && isInReach(inn, before, rooms[i], minutes[i])) {
                        chains[i] = Math.max(chains[i], chains[before] + 1);
                    }
                }
                int more = Math.max(0, chains[i] - longest[guests[i]]);
                longest[guests[i]] += more;
                mostTrue += more;
            }
            return size - mostTrue;
        }

        private boolean isInReach(Inn inn, int i, int room, int minute) {
            return inn.walkBetween(rooms[i], room) <= Math.abs(minutes[i] - minute);
        }
    }

    /** The register's pages: for each guest the rooms that can still be read, as bits (0: no page). */
    private static final class Register {
        final int[] sets = new int[GUESTS_MOST];
        private final int[] asked = new int[GUESTS_MOST];

        int pages() {
            int found = 0;
            for (int guest = 0; guest < GUESTS_MOST; guest++) {
                found += sets[guest] != 0 ? 1 : 0;
            }
            return found;
        }

        int waysInAll(int[] row, int rooms) {
            return waysBeside(0, fillRow(row, rooms, NONE), row, rooms);
        }

        int onlyRoomOf(int guest, int[] row, int rooms) {
            int only = NONE;
            int others = fillRow(row, rooms, guest);
            for (int room = 0; room < rooms; room++) {
                if (bitOf(sets[guest], room) == 1 && waysBeside(1 << room, others, row, rooms) > 0) {
                    if (only != NONE) {
                        return NONE;
                    }
                    only = room;
                }
            }
            return only;
        }

        /** row[used]: the ways in which the first guests with a page, as many as that, have just the rooms used. */
        private int fillRow(int[] row, int rooms, int leftOut) {
            int askedNow = 0;
            for (int guest = 0; guest < GUESTS_MOST; guest++) {
                if (sets[guest] != 0 && guest != leftOut) {
                    asked[askedNow] = sets[guest];
                    askedNow++;
                }
            }
            Arrays.fill(row, 0);
            row[0] = 1;
            for (int used = 0; used < 1 << rooms; used++) {
                int placed = Integer.bitCount(used);
                if (row[used] > 0 && placed < askedNow) {
                    placeNext(row, used, asked[placed], rooms);
                }
            }
            return askedNow;
        }

        private static void placeNext(int[] row, int used, int set, int rooms) {
            for (int room = 0; room < rooms; room++) {
                if (bitOf(set & ~used, room) == 1) {
                    row[used | 1 << room] += row[used];
                }
            }
        }

        private static int waysBeside(int kept, int placed, int[] row, int rooms) {
            int found = 0;
            for (int used = 0; used < 1 << rooms; used++) {
                if (Integer.bitCount(used) == placed && (used & kept) == 0) {
                    found += row[used];
                }
            }
            return found;
        }
    }

    /** What porters have to carry, as told. */
    private static final class Jobs {
        final int[] ahead = new int[JOBS_MOST];
        final int[] stairs = new int[JOBS_MOST];
        final int[] behind = new int[JOBS_MOST];
        int size;

        void copyFrom(Jobs other) {
            System.arraycopy(other.ahead, 0, ahead, 0, JOBS_MOST);
            System.arraycopy(other.stairs, 0, stairs, 0, JOBS_MOST);
            System.arraycopy(other.behind, 0, behind, 0, JOBS_MOST);
            size = other.size;
        }

        boolean add(int minutesAhead, int minutesOn, int minutesBehind) {
            if (size >= JOBS_MOST) {
                return false;
            }
            ahead[size] = minutesAhead;
            stairs[size] = minutesOn;
            behind[size] = minutesBehind;
            size++;
            return true;
        }

        int doneAsTold() {
            int done = 0;
            int free = 0;
            for (int i = 0; i < size; i++) {
                free = Math.max(free, ahead[i]) + stairs[i];
                done = Math.max(done, free + behind[i]);
            }
            return done;
        }
    }

    /** The best order of jobs. */
    private static final class PorterPlan {
        final int[] turn = new int[JOBS_MOST];
        int done;
        private Jobs jobs;
        /** When the job goes on the stairs. */
        private final int[] starts = new int[JOBS_MOST];
        /** For a set of jobs: how late the stairs may get free so that all of them are done in time; NONE: never. */
        private final int[] latest = new int[1 << JOBS_MOST];

        void make(Jobs asked) {
            jobs = asked;
            int least = 0;
            int enough = jobs.doneAsTold();
            // Ten halvings would do: no order needs 1,000 minutes.
            for (int halved = 0; halved < 32 && least < enough; halved++) {
                int middle = (least + enough) / 2;
                if (canBeDoneBy(middle)) {
                    enough = middle;
                } else {
                    least = middle + 1;
                }
            }
            done = enough;
            canBeDoneBy(done);
            takeFirstOrder();
        }

        int waits() {
            int waited = 0;
            for (int i = 0; i < jobs.size; i++) {
                waited += starts[i] - jobs.ahead[i];
            }
            return waited;
        }

        /** As many as are at work at once, which is most when one of them begins. */
        int portersNeeded() {
            int most = 0;
            for (int i = 0; i < jobs.size; i++) {
                int atWork = 0;
                for (int other = 0; other < jobs.size; other++) {
                    atWork += isAtWork(other, starts[i] - jobs.ahead[i]) ? 1 : 0;
                }
                most = Math.max(most, atWork);
            }
            return most;
        }

        private boolean isAtWork(int i, int minute) {
            int end = starts[i] + jobs.stairs[i] + jobs.behind[i];
            return starts[i] - jobs.ahead[i] <= minute && minute < end;
        }

        private boolean canBeDoneBy(int limit) {
            latest[0] = limit;
            int all = (1 << jobs.size) - 1;
            for (int set = 1; set <= all; set++) {
                int late = NONE;
                for (int first = 0; first < jobs.size; first++) {
                    if (bitOf(set, first) == 1) {
                        int start = latestStart(first, set, limit);
                        late = start >= jobs.ahead[first] ? Math.max(late, start) : late;
                    }
                }
                latest[set] = late;
            }
            return latest[all] != NONE;
        }

        /** How late the first one of a set may go on the stairs. */
        private int latestStart(int first, int set, int limit) {
            int others = latest[set & ~(1 << first)];
            return Math.min(others, limit - jobs.behind[first]) - jobs.stairs[first];
        }

        private void takeFirstOrder() {
            int left = (1 << jobs.size) - 1;
            int free = 0;
            for (int at = 0; at < jobs.size; at++) {
                int next = firstInTime(left, free);
                if (next == NONE) {
                    return;
                }
                turn[at] = next;
                starts[next] = Math.max(free, jobs.ahead[next]);
                free = starts[next] + jobs.stairs[next];
                left &= ~(1 << next);
            }
        }

        private int firstInTime(int left, int free) {
            for (int i = 0; i < jobs.size; i++) {
                if (bitOf(left, i) == 1 && Math.max(free, jobs.ahead[i]) <= latestStart(i, left, done)) {
                    return i;
                }
            }
            return NONE;
        }
    }

    /** All that a mark holds. */
    private static final class State {
        private final RuleMachine machine;
        final House house = new House();
        /** What would have been under no rule, rule 0, 1 ..; each goes along with all that comes and leaves. */
        private final House[] trials = new House[RULES_MOST + 1];
        final Diary diary = new Diary();
        final Sightings sightings = new Sightings();
        final Register register = new Register();
        final Jobs jobs = new Jobs();
        int booked;
        int ruleInUse = NONE;
        int lastMinute;
        int cameAndLeft;

        State(RuleMachine machine) {
            this.machine = machine;
            for (int i = 0; i < trials.length; i++) {
                trials[i] = new House();
            }
        }

        void reset(int rule) {
            house.empty();
            for (int i = 0; i < trials.length; i++) {
                trials[i].empty();
            }
            diary.empty();
            sightings.size = 0;
            Arrays.fill(register.sets, 0);
            jobs.size = 0;
            booked = 0;
            ruleInUse = rule;
            lastMinute = 0;
            cameAndLeft = 0;
        }

        void copyFrom(State other) {
            house.copyFrom(other.house);
            for (int i = 0; i < trials.length; i++) {
                trials[i].copyFrom(other.trials[i]);
            }
            diary.copyFrom(other.diary);
            sightings.copyFrom(other.sightings);
            System.arraycopy(other.register.sets, 0, register.sets, 0, GUESTS_MOST);
            jobs.copyFrom(other.jobs);
            booked = other.booked;
            ruleInUse = other.ruleInUse;
            lastMinute = other.lastMinute;
            cameAndLeft = other.cameAndLeft;
        }

        /** For a rule of the inn, or NONE. */
        House trialOf(int rule) {
            return trials[rule + 1];
        }

        void takeIn(Inn inn, int guest, int minute) {
            note(minute);
            house.takeIn(inn, guest, diary);
            for (int rule = NONE; rule < inn.rules; rule++) {
                trialOf(rule).takeIn(inn, guest, null);
            }
            booked &= ~(1 << guest);
        }

        void letOut(Inn inn, int guest, int minute) {
            note(minute);
            house.letOut(inn, guest, ruleInUse, machine, diary);
            for (int rule = NONE; rule < inn.rules; rule++) {
                trialOf(rule).letOut(inn, guest, rule, machine, null);
            }
        }

        private void note(int minute) {
            diary.beginChain(minute);
            lastMinute = minute;
            cameAndLeft++;
        }
    }
}
