import com.sun.management.ThreadMXBean;
import java.lang.management.ManagementFactory;

/** All calls of a run share one heap that nobody clears: a call makes nothing but what a first mark needs. */
public final class HeapTest {
    private static final int CONSTRUCTOR_BYTES = 40000;
    private static final int MARK_BYTES = 16000;
    private static final Due due = new Due();
    private static final ThreadMXBean THREADS = (ThreadMXBean) ManagementFactory.getThreadMXBean();
    private static int kept;

    public static void main(String[] args) {
        String inn = "room 0 0;room 1 0;room 2 1;guest a trunk 1 bath;guest b trunk 20;guest c trunk 3;"
                + "rule 1;rule here*trunk;";
        // Once ahead, so that classes are loaded before anything is measured.
        use(due.inn(inn), inn);
        new MoveInn().mark(0, false);
        long before = bytes();
        MoveInn x = new MoveInn();
        due.is("bytes of a new object", bytes() - before < CONSTRUCTOR_BYTES, true);
        Due.read(x, inn);
        for (int mark = 0; mark < 4; mark++) {
            before = bytes();
            x.mark(mark, false);
            due.is("bytes of a first mark", bytes() - before < MARK_BYTES, true);
        }
        before = bytes();
        use(x, inn);
        long made = bytes() - before;
        due.is("bytes of all calls, " + made, made < 100, true);
        due.is("calls were made", kept != 0, true);
        due.end();
    }

    private static long bytes() {
        return THREADS.getThreadAllocatedBytes(Thread.currentThread().getId());
    }

    private static void use(MoveInn x, String inn) {
        for (int i = 0; i < 18; i++) {
            int guest = i % 3;
            kept += x.come(guest, i) + x.where(guest, i) + x.who(guest, i) + x.letter(guest, i, i + 1);
            kept += x.trunk(guest, 0, i) + x.sight(guest, guest, i) + x.could(guest, i) + x.liars();
            kept += x.page(guest, 7) + (int) x.ways() + x.sure(guest) + x.job(i, 1 + i, i) + x.porters(2) + x.told();
            kept += x.leave(guest, i) + x.book(guest) + x.order(guest, 1) + x.tried(1, 2) + x.best() + x.count(3);
            kept += x.mark(i % 4, i % 3 == 0) ? 1 : 0;
            kept += i % 10 == 9 ? Due.read(x, inn) : 0;
        }
    }
}
