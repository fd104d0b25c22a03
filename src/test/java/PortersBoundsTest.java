import java.util.Random;

/** Promises 22 to 24 at their bounds: jobs, their best order against all orders, porters against all minutes. */
public final class PortersBoundsTest {
    private static final Due due = new Due();

    public static void main(String[] args) {
        minutesOfAJob();
        theSeventh();
        whatIsAsked();
        withoutAJob();
        threeSmallJobs();
        drawnJobs();
        endAndBeginning();
        due.end();
    }

    /** "minutes ahead of the stairs, on the stairs (1 at least), behind them (0 to 99 each)". */
    private static void minutesOfAJob() {
        int[] minutes = {Integer.MIN_VALUE, -1, 0, 1, 98, 99, 100, 101, Integer.MAX_VALUE};
        for (int minute : minutes) {
            boolean right = minute >= 0 && minute <= 99;
            MoveInn x = new MoveInn();
            due.is("job(" + minute + ", 1, 0)", x.job(minute, 1, 0), right ? 1 : -1);
            due.is("told()", x.told(), right ? minute + 1 : -1);
            x = new MoveInn();
            due.is("job(0, " + minute + ", 0)", x.job(0, minute, 0), right && minute > 0 ? 1 : -1);
            due.is("told()", x.told(), right && minute > 0 ? minute : -1);
            due.is("count(7)", x.count(7), right && minute > 0 ? 1 : 0);
            x = new MoveInn();
            due.is("job(0, 1, " + minute + ")", x.job(0, 1, minute), right ? 1 : -1);
            due.is("told()", x.told(), right ? 1 + minute : -1);
        }
    }

    /** "JOBS of porters, 7 at most"; "NONE: others, 7 are there". */
    private static void theSeventh() {
        MoveInn x = new MoveInn();
        for (int i = 1; i <= 7; i++) {
            due.is("job " + i, x.job(0, i, 0), i);
        }
        due.is("job 8", x.job(0, 1, 0), -1);
        due.is("count(7)", x.count(7), 7);
        due.is("told()", x.told(), 28);
        due.is("porters(9): the last of seven", x.porters(9), 6);
        due.is("porters(10)", x.porters(10), -1);
        x.clear();
        due.is("a job when all are cleared", x.job(0, 1, 0), 1);
    }

    /** "what 0 .., 1 .., 2 .., 3 + i: the i-th JOB; NONE: others". */
    private static void whatIsAsked() {
        MoveInn x = new MoveInn();
        x.job(0, 1, 0);
        x.job(0, 1, 5);
        for (int what : new int[] {Integer.MIN_VALUE, -2, -1, 5, 6, 9, 10, 35, Integer.MAX_VALUE}) {
            due.is("porters(" + what + ")", x.porters(what), -1);
        }
        due.is("porters(3)", x.porters(3), 1);
        due.is("porters(4)", x.porters(4), 0);
    }

    private static void withoutAJob() {
        MoveInn x = new MoveInn();
        for (int what = -1; what <= 10; what++) {
            due.is("porters(" + what + ") without a job", x.porters(what), -1);
        }
        due.is("told() without a job", x.told(), -1);
    }

    private static void threeSmallJobs() {
        for (int kind = 0; kind < 12 * 12 * 12; kind++) {
            int[][] jobs = {small(kind % 12), small(kind / 12 % 12), small(kind / 144)};
            compare(jobs);
        }
    }

    private static int[] small(int kind) {
        return new int[] {kind % 3, 1 + kind / 3 % 2, kind / 6 * 3};
    }

    private static void drawnJobs() {
        Random random = new Random(23);
        for (int i = 0; i < 400; i++) {
            int[][] jobs = new int[1 + random.nextInt(i % 20 == 0 ? 7 : 5)][];
            int most = i % 3 == 0 ? 100 : 8;
            for (int at = 0; at < jobs.length; at++) {
                jobs[at] = new int[] {random.nextInt(most), 1 + random.nextInt(most - 1), random.nextInt(most)};
            }
            compare(jobs);
        }
    }

    private static void compare(int[][] jobs) {
        MoveInn x = new MoveInn();
        StringBuilder text = new StringBuilder();
        for (int[] job : jobs) {
            x.job(job[0], job[1], job[2]);
            text.append(job[0]).append('/').append(job[1]).append('/').append(job[2]).append(' ');
        }
        int[] told = new int[jobs.length];
        for (int i = 0; i < told.length; i++) {
            told[i] = i;
        }
        int[] best = told.clone();
        tryOrders(jobs, told, 0, best);
        int[] starts = starts(jobs, best);
        int waits = 0;
        for (int i = 0; i < jobs.length; i++) {
            waits += starts[i] - jobs[i][0];
            due.is("porters(" + (3 + i) + ") of " + text, x.porters(3 + i), best[i]);
        }
        due.is("told() of " + text, x.told(), done(jobs, told));
        due.is("porters(0) of " + text, x.porters(0), done(jobs, best));
        due.is("porters(1) of " + text, x.porters(1), waits);
        due.is("porters(2) of " + text, x.porters(2), atOnce(jobs, starts));
    }

    /** All orders, the first ones first, so that of equal ones the first is kept. */
    private static void tryOrders(int[][] jobs, int[] order, int fixed, int[] best) {
        if (fixed == order.length) {
            if (done(jobs, order) < done(jobs, best)) {
                System.arraycopy(order, 0, best, 0, best.length);
            }
            return;
        }
        for (int at = fixed; at < order.length; at++) {
            int[] next = order.clone();
            System.arraycopy(order, fixed, next, fixed + 1, at - fixed);
            next[fixed] = order[at];
            tryOrders(jobs, next, fixed + 1, best);
        }
    }

    private static int[] starts(int[][] jobs, int[] order) {
        int[] starts = new int[jobs.length];
        int free = 0;
        for (int i : order) {
            starts[i] = Math.max(free, jobs[i][0]);
            free = starts[i] + jobs[i][1];
        }
        return starts;
    }

    private static int done(int[][] jobs, int[] order) {
        int[] starts = starts(jobs, order);
        int done = 0;
        for (int i : order) {
            done = Math.max(done, starts[i] + jobs[i][1] + jobs[i][2]);
        }
        return done;
    }

    /** As many porters as have a job at once, at any minute. */
    private static int atOnce(int[][] jobs, int[] starts) {
        int most = 0;
        for (int minute = 0; minute < 1000; minute++) {
            int now = 0;
            for (int i = 0; i < jobs.length; i++) {
                boolean begun = starts[i] - jobs[i][0] <= minute;
                now += begun && minute < starts[i] + jobs[i][1] + jobs[i][2] ? 1 : 0;
            }
            most = Math.max(most, now);
        }
        return most;
    }

    /** "one who ends at a minute may begin another one then". */
    private static void endAndBeginning() {
        MoveInn x = new MoveInn();
        x.job(0, 5, 0);
        x.job(0, 5, 0);
        due.is("one ends at 5, the other begins at 5", x.porters(2), 1);
        x.clear();
        x.job(0, 5, 0);
        x.job(1, 5, 0);
        due.is("the other begins at 4", x.porters(2), 2);
        x.clear();
        x.job(0, 5, 1);
        x.job(0, 5, 1);
        due.is("one ends at 6, the other begins at 5", x.porters(2), 2);
        x.clear();
        x.job(0, 1, 0);
        due.is("one job", x.porters(2), 1);
        due.is("it waits for nothing", x.porters(1), 0);
    }
}
