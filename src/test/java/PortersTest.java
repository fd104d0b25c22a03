/** Promises 22 to 24: job, porters, told. */
public final class PortersTest {
    private static final Due due = new Due();

    public static void main(String[] args) {
        jobs();
        equalOnes();
        lateBeginning();
        onePorter();
        seven();
        due.end();
    }

    private static void jobs() {
        MoveInn x = new MoveInn();
        due.is("told()", x.told(), -1);
        due.is("porters(0)", x.porters(0), -1);
        due.is("job(-1, 1, 0)", x.job(-1, 1, 0), -1);
        due.is("job(100, 1, 0)", x.job(100, 1, 0), -1);
        due.is("job(0, 0, 0)", x.job(0, 0, 0), -1);
        due.is("job(0, -1, 0)", x.job(0, -1, 0), -1);
        due.is("job(0, 100, 0)", x.job(0, 100, 0), -1);
        due.is("job(0, 1, -1)", x.job(0, 1, -1), -1);
        due.is("job(0, 1, 100)", x.job(0, 1, 100), -1);
        due.is("job(99, 99, 99)", x.job(99, 99, 99), 1);
        due.is("told()", x.told(), 297);
        due.is("porters(0)", x.porters(0), 297);
        due.is("porters(1)", x.porters(1), 0);
        due.is("porters(2)", x.porters(2), 1);
        due.is("porters(3)", x.porters(3), 0);
        due.is("porters(4)", x.porters(4), -1);
        due.is("porters(-1)", x.porters(-1), -1);
        due.is("porters(MAX)", x.porters(Integer.MAX_VALUE), -1);
        due.is("job(0, 1, 0)", x.job(0, 1, 0), 2);
        due.is("told()", x.told(), 297);
        x.clear();
        due.is("porters(0) behind clear()", x.porters(0), -1);
    }

    private static void equalOnes() {
        MoveInn x = new MoveInn();
        x.job(0, 2, 0);
        x.job(0, 1, 5);
        x.job(0, 3, 0);
        // All is on the stairs for 6 minutes; job 1 may begin at minute 2 and be done at 8, or sooner.
        due.is("told()", x.told(), 8);
        due.is("porters(0)", x.porters(0), 6);
        due.is("porters(3)", x.porters(3), 1);
        due.is("porters(4)", x.porters(4), 0);
        due.is("porters(5)", x.porters(5), 2);
        due.is("porters(1)", x.porters(1), 1 + 3);
        // Job 1 from 0 to 6, job 0 from 1 to 3, job 2 from 3 to 6: whoever ends at 3 goes on then.
        due.is("porters(2)", x.porters(2), 2);
    }

    private static void lateBeginning() {
        MoveInn x = new MoveInn();
        x.job(10, 5, 0);
        x.job(10, 5, 0);
        // The second one waits 5 minutes if it begins at 0; beginning at 5, it is at work from 5 to 20.
        due.is("porters(0)", x.porters(0), 20);
        due.is("porters(1)", x.porters(1), 5);
        due.is("porters(2)", x.porters(2), 2);
        x.clear();
        x.job(0, 5, 0);
        x.job(5, 5, 0);
        due.is("porters(1)", x.porters(1), 0);
        due.is("porters(2)", x.porters(2), 2);
        x.clear();
        x.job(0, 10, 0);
        x.job(5, 5, 0);
        // Job 1 begins at 5 so that it need not wait at 10.
        due.is("porters(0)", x.porters(0), 15);
        due.is("porters(1)", x.porters(1), 5);
        due.is("porters(2)", x.porters(2), 2);
    }

    private static void onePorter() {
        MoveInn x = new MoveInn();
        for (int i = 0; i < 7; i++) {
            x.job(0, 9, 0);
        }
        due.is("job, an eighth", x.job(0, 9, 0), -1);
        due.is("porters(0)", x.porters(0), 63);
        due.is("porters(1)", x.porters(1), 9 * 21);
        due.is("porters(2)", x.porters(2), 1);
        for (int i = 0; i < 7; i++) {
            due.is("porters(" + (3 + i) + ")", x.porters(3 + i), i);
        }
        due.is("porters(10)", x.porters(10), -1);
    }

    private static void seven() {
        MoveInn x = new MoveInn();
        for (int i = 0; i < 7; i++) {
            x.job(99, 99, 99);
        }
        due.is("told()", x.told(), 99 * 9);
        due.is("porters(0)", x.porters(0), 99 * 9);
        due.is("porters(1)", x.porters(1), 99 * 21);
        due.is("porters(2)", x.porters(2), 3);
        due.is("count(7)", x.count(7), 7);
    }
}
