import java.util.Random;

/** Draws the text of an inn. */
final class InnText {
    private static final String[] FACTS = {"trunk", "bath", "ill", "here", "gap", "floors", "stove", "moved"};
    private final Random random;
    private final StringBuilder text = new StringBuilder();

    InnText(Random random) {
        this.random = random;
    }

    String text() {
        int most = random.nextInt(12) == 0 ? 12 : 11;
        int rooms = random.nextInt(most);
        int guests = random.nextInt(most);
        int rules = random.nextInt(random.nextInt(12) == 0 ? 6 : 5);
        int floors = 1 + random.nextInt(10);
        boolean closely = random.nextBoolean();
        while (rooms + guests + rules > 0) {
            int next = random.nextInt(rooms + guests + rules);
            if (next < rooms) {
                rooms--;
                put("room").put(random.nextInt(floors)).put(random.nextInt(2));
            } else if (next < rooms + guests) {
                guests--;
                putGuest(guests);
            } else {
                rules--;
                put("rule");
                putE(0);
            }
            put(";");
        }
        return closely ? text.toString().replace(" ;", ";").replace("; ", ";").replace(" (", "(") : text.toString();
    }

    private InnText put(Object token) {
        text.append(token).append(random.nextInt(30) == 0 ? "\n " : " ");
        return this;
    }

    private void putGuest(int number) {
        put("guest").put((char) ('a' + number % 11)).put("trunk").put(random.nextInt(100));
        boolean bath = random.nextInt(3) == 0;
        boolean ill = random.nextInt(3) == 0;
        boolean first = random.nextBoolean();
        if (bath && first) {
            put("bath");
        }
        if (ill) {
            put("ill");
        }
        if (bath && !first) {
            put("bath");
        }
    }

    private void putE(int within) {
        putTest(within);
        for (int more = random.nextInt(4); more > 2; more--) {
            put(random.nextBoolean() ? "and" : "or");
            putTest(within);
        }
    }

    private void putTest(int within) {
        putSum(within);
        if (random.nextInt(4) == 0) {
            put(random.nextBoolean() ? "<" : "=");
            putSum(within);
        }
    }

    private void putSum(int within) {
        putProduct(within);
        while (random.nextInt(3) == 0) {
            put(random.nextBoolean() ? "+" : "-");
            putProduct(within);
        }
    }

    private void putProduct(int within) {
        putPart(within);
        while (random.nextInt(4) == 0) {
            put("*");
            putPart(within);
        }
    }

    private void putPart(int within) {
        int kind = random.nextInt(within < 4 ? 10 : within < 5 && random.nextInt(20) == 0 ? 10 : 8);
        if (kind < 5) {
            put(FACTS[random.nextInt(FACTS.length)]);
        } else if (kind < 8) {
            put(random.nextInt(random.nextInt(4) == 0 ? 10000 : 10));
        } else if (kind == 8) {
            put("not");
            putPart(within + 1);
        } else {
            put("(");
            putE(within + 1);
            put(")");
        }
    }
}
