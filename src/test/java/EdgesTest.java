import java.util.NoSuchElementException;

/** Every call with numbers from all edges, on objects from a new to a full one: only gives throws, and by rule. */
public final class EdgesTest {
    private static final int[] EDGES = {Integer.MIN_VALUE, -1000000, -5, -4, -3, -2, -1, 0, 1, 2, 3, 4, 6, 7, 8, 9,
        10, 11, 12, 20, 31, 32, 33, 98, 99, 100, 1023, 1024, 99999, 100000, 999999, 1000000, Integer.MAX_VALUE};
    private static final int[] THIRD = {Integer.MIN_VALUE, -1, 0, 1, 9, 10, 99, 100, 999999, 1000000,
        Integer.MAX_VALUE};
    /** A full one is made by some 300 calls, and nothing is promised behind the 512th. */
    private static final int CALLS_OF_ONE = 200;
    private static final Due due = new Due();

    public static void main(String[] args) {
        String full = fullInn();
        String[] texts = {"", "room 0 0;", "guest a trunk 1;", "rule 1;", "room 9 1;guest a trunk 99;", full};
        for (String text : texts) {
            for (int kind = 0; kind < 31; kind++) {
                tryAll(text, kind, false);
                tryAll(text, kind, true);
            }
        }
        due.end();
    }

    private static String fullInn() {
        StringBuilder text = new StringBuilder();
        for (int i = 0; i < 10; i++) {
            text.append("room ").append(i).append(' ').append(i % 2).append(';');
            text.append("guest ").append((char) ('a' + i)).append(" trunk ").append(i * 11).append(" bath ill;");
        }
        String deep = "1 and 1<1+1*(1 or 1=1-1*(here and gap<moved+floors*"
                + "(stove or trunk=1+1*(not ill and bath=1+1*2))))";
        for (int i = 0; i < 4; i++) {
            text.append("rule ").append(deep).append(';');
        }
        return text.toString();
    }

    private static MoveInn made(String text, boolean full) {
        MoveInn x = new MoveInn();
        Due.read(x, text);
        if (full) {
            for (int i = 0; i < 20; i++) {
                x.come(i % 10, i);
                x.sight(i % 10, i % 10, i);
                x.page(i % 10, 1023);
                x.job(99, 99, 99);
            }
            for (int i = 0; i < 40; i++) {
                x.leave(x.room(0, 2), 99999);
                x.book(i % 10);
            }
            x.mark(0, false);
            Due.feed(x, text.isEmpty() ? "#" : text);
        }
        return x;
    }

    private static void tryAll(String text, int kind, boolean full) {
        MoveInn x = made(text, full);
        int calls = 0;
        for (int a : EDGES) {
            for (int b : EDGES) {
                for (int c : THIRD) {
                    if (calls == CALLS_OF_ONE) {
                        x = made(text, full);
                        calls = 0;
                    }
                    calls++;
                    tryOne(x, kind, a, b, c);
                }
            }
        }
    }

    private static void tryOne(MoveInn x, int kind, int a, int b, int c) {
        String call = kind + " with " + a + ", " + b + ", " + c;
        try {
            long got = answer(x, kind, a, b, c);
            due.is("call " + call + " stays above -4", got >= -3 || kind == 6, true);
        } catch (NoSuchElementException e) {
            due.is("call " + call + " throws", kind, 6);
        } catch (RuntimeException e) {
            due.is("call " + call + " throws " + e, 1, 0);
        }
    }

    private static long answer(MoveInn x, int kind, int a, int b, int c) {
        switch (kind) {
            case 1: return x.feed(a, b, c);
            case 2: return x.inn();
            case 3: return x.room(a, b);
            case 4: return x.guest(a, b);
            case 5: return x.use(a) ? 1 : 0;
            case 6: return x.gives(a, b, c);
            case 7: return x.come(a, b);
            case 8: return x.leave(a, b);
            case 9: return x.over();
            case 10: return x.sum(a);
            case 11: return x.where(a, b);
            case 12: return x.who(a, b);
            case 13: return x.letter(a, b, c);
            case 14: return x.trunk(a, b, c);
            case 15: return x.sight(a, b, c);
            case 16: return x.could(a, b);
            case 17: return x.liars();
            case 18: return x.page(a, b);
            case 19: return x.ways();
            case 20: return x.sure(a);
            case 21: return x.job(a, b, c);
            case 22: return x.porters(a);
            case 23: return x.told();
            case 24: return x.clear() ? 1 : 0;
            case 25: return x.book(a);
            case 26: return x.order(a, b);
            case 27: return x.tried(a, b);
            case 28: return x.best();
            case 29: return x.mark(a, b > 0) ? 1 : 0;
            default: return x.count(a);
        }
    }
}
