import java.util.NoSuchElementException;

/** Counts the answers that are not the ones that are due. */
final class Due {
    static final long THROWS = Long.MIN_VALUE;

    private int asked;
    private int wrong;

    void is(String call, long got, long want) {
        asked++;
        if (got != want) {
            wrong++;
            if (wrong <= 40) {
                System.out.println(call + " answered " + text(got) + ", due is " + text(want));
            }
        }
    }

    void is(String call, boolean got, boolean want) {
        is(call, got ? 1 : 0, want ? 1 : 0);
    }

    void end() {
        System.out.println(asked + " answers, " + wrong + " not as due");
        if (wrong != 0 || asked == 0) {
            System.exit(1);
        }
    }

    int wrong() {
        return wrong;
    }

    /** A new object for which the text was read as an inn. */
    MoveInn inn(String text) {
        MoveInn x = new MoveInn();
        is("inn() of " + text, read(x, text), 0);
        return x;
    }

    /** What inn() answers for a text, and that the tape is empty then. */
    void fault(String text, int kind, int place) {
        MoveInn x = new MoveInn();
        is("inn() of " + text, read(x, text), kind == 0 ? 0 : kind + 16 * place);
        is("count(10) behind inn() of " + text, x.count(10), 0);
    }

    static int read(MoveInn x, String text) {
        feed(x, text);
        return x.inn();
    }

    static int feed(MoveInn x, String text) {
        int signs = 0;
        for (int at = 0; at < text.length(); at += 24) {
            signs = x.feed(eight(text, at), eight(text, at + 8), eight(text, at + 16));
        }
        return signs;
    }

    static long eight(String text, int at) {
        long signs = 0;
        for (int i = at; i < at + 8; i++) {
            signs = signs << 8 | (i < text.length() ? text.charAt(i) & 255 : 0);
        }
        return signs;
    }

    static long gives(MoveInn x, int rule, int guest, int gap) {
        try {
            return x.gives(rule, guest, gap);
        } catch (NoSuchElementException e) {
            return THROWS;
        }
    }

    static String repeat(String text, int times) {
        return text.repeat(times);
    }

    private static String text(long answer) {
        return answer == THROWS ? "throws.NoSuchElementException" : Long.toString(answer);
    }
}
