import java.util.function.Supplier;

/** The boundary cases that promises 5 to 12 name, on calls that only ask: one test for each sentence. */
public final class AnswersBoundaryTest extends Boundaries {
    private static final int[][] JOBS = {job(12, 5, 10), job(36, 3, 3), job(24, 3, 18), job(360, 1, 33)};

    public static void main(String[] args) {
        begin("AnswersBoundaryTest");
        offsetNoJob();
        runningNoJob();
        runningBadTime();
        freeBothEnds();
        freeFromAfterTo();
        freeBadTime();
        startsBothEnds();
        startsFromAfterTo();
        startsNoJobThenBadTime();
        nextStartAtOrAfter();
        nextStartFirstSlotOfRun();
        nextStartNoJobs();
        nextStartBadTimeFirst();
        nextStartAboveLast();
        roomNone();
        roomGreatestLength();
        roomBadPeriod();
        roomWithTenJobs();
        loadNoJobs();
        loadAllSlots();
        loadOnceBegun();
        freeOrder();
        startsOrder();
        end();
    }

    private static void offsetNoJob() {
        sentence("Promise 5: The job's offset; NO_JOB");
        for (int id : WRONG_IDS) {
            for (Supplier<StrictOffsets> history : histories()) {
                due(history.get(), offset(id), NO_JOB);
            }
        }
        StrictOffsets object = new StrictOffsets();
        for (int id = 0; id < 10; id++) {
            due(object, offset(id), NO_JOB);
        }
        StrictOffsets some = some();
        due(some, offset(0), 55);
        due(some, offset(1), NO_JOB);
        due(some, offset(2), 7);
        due(some, offset(3), NO_JOB);
        StrictOffsets edges = with(job(360, 1, 359), job(360, 1, 0));
        due(edges, offset(0), 359);
        due(edges, offset(1), 0);
    }

    private static void runningNoJob() {
        sentence("Promise 6: The id of the job that runs in this slot; NO_JOB if none does");
        due(new StrictOffsets(), running(0), NO_JOB);
        due(new StrictOffsets(), running(LAST), NO_JOB);
        for (int first = 0; first <= 720; first += 360) {
            askRunning(first);
        }
        askRunning(LAST - 359);
        StrictOffsets gone = with(JOBS);
        due(gone, remove(3), 3);
        due(gone, running(33), NO_JOB);
        due(gone, running(34), 0);
    }

    private static void askRunning(int first) {
        StrictOffsets object = with(JOBS);
        for (int slot = first; slot < first + 360; slot++) {
            due(object, running(slot), idIn(slot));
        }
    }

    private static int idIn(int slot) {
        for (int id = 0; id < JOBS.length; id++) {
            if (runs(JOBS[id], slot)) {
                return id;
            }
        }
        return NO_JOB;
    }

    private static void runningBadTime() {
        sentence("Promise 6: BAD_TIME");
        for (int time : WRONG_TIMES) {
            for (Supplier<StrictOffsets> history : histories()) {
                due(history.get(), running(time), BAD_TIME);
            }
        }
        due(with(job(2, 2, 0)), running(0), 0);
        due(with(job(2, 2, 0)), running(LAST), 0);
    }

    private static void freeBothEnds() {
        sentence("Promise 7: How many slots from 'from' to 'to' (both counted in) no job runs in");
        for (int from = 0; from <= 400; from++) {
            askFree(from, 1);
        }
        for (int from = 380; from <= LAST - 400; from += LAST / 3) {
            askFree(from, 37);
        }
        StrictOffsets ends = with(job(10, 1, 0));
        due(ends, free(0, 0), 0);
        due(ends, free(1, 1), 1);
        due(ends, free(1, 9), 9);
        due(ends, free(0, 10), 9);
        due(ends, free(LAST, LAST), 0);
        due(ends, free(LAST - 1, LAST), 1);
        due(ends, free(LAST - 1, LAST - 1), 1);
        due(new StrictOffsets(), free(0, 0), 1);
        due(new StrictOffsets(), free(LAST, LAST), 1);
        due(new StrictOffsets(), free(0, LAST), LAST + 1);
    }

    private static void askFree(int from, int step) {
        StrictOffsets object = with(JOBS);
        int slots = 0;
        for (int to = from; to < from + 400; to++) {
            slots += idIn(to) == NO_JOB ? 1 : 0;
            if ((to - from) % step == 0) {
                due(object, free(from, to), slots);
            }
        }
    }

    private static void freeFromAfterTo() {
        sentence("Promise 7: 0 if from > to");
        for (Supplier<StrictOffsets> history : histories()) {
            StrictOffsets object = history.get();
            due(object, free(1, 0), 0);
            due(object, free(2, 0), 0);
            due(object, free(500, 499), 0);
            due(object, free(720, 300), 0);
            due(object, free(LAST, 0), 0);
            due(object, free(LAST, LAST - 1), 0);
        }
    }

    private static void freeBadTime() {
        sentence("Promise 7: One of them out of range: BAD_TIME");
        for (int time : WRONG_TIMES) {
            for (Supplier<StrictOffsets> history : histories()) {
                StrictOffsets object = history.get();
                due(object, free(time, 0), BAD_TIME);
                due(object, free(time, LAST), BAD_TIME);
                due(object, free(0, time), BAD_TIME);
                due(object, free(LAST, time), BAD_TIME);
                due(object, free(time, time), BAD_TIME);
                due(object, free(MIN, time), BAD_TIME);
                due(object, free(time, MAX), BAD_TIME);
            }
        }
    }

    private static void startsBothEnds() {
        sentence("Promise 8: How many runs of the job begin in slots 'from' to 'to' (both counted in)");
        for (int id = 0; id < JOBS.length; id++) {
            for (int from = 0; from <= 400; from++) {
                askStarts(id, from, 1);
            }
            for (int from = 380; from <= LAST - 400; from += LAST / 3) {
                askStarts(id, from, 37);
            }
        }
        StrictOffsets ends = with(job(10, 3, 0), job(360, 2, 4));
        due(ends, starts(0, 0, 0), 1);
        due(ends, starts(0, 1, 9), 0);
        due(ends, starts(0, 1, 10), 1);
        due(ends, starts(0, 0, 10), 2);
        due(ends, starts(0, LAST, LAST), 1);
        due(ends, starts(0, LAST - 9, LAST - 1), 0);
        due(ends, starts(1, 0, 3), 0);
        due(ends, starts(1, 4, 4), 1);
        due(with(job(2, 1, 1)), starts(0, 0, LAST), 500000000);
        due(with(job(2, 1, 0)), starts(0, 0, LAST), 500000001);
    }

    private static void askStarts(int id, int from, int step) {
        StrictOffsets object = with(JOBS);
        int runs = 0;
        for (int to = from; to < from + 400; to++) {
            runs += begins(JOBS[id], to) ? 1 : 0;
            if ((to - from) % step == 0) {
                due(object, starts(id, from, to), runs);
            }
        }
    }

    private static void startsFromAfterTo() {
        sentence("Promise 8: 0 if from > to");
        StrictOffsets object = with(job(2, 1, 0), job(360, 1, 359));
        for (int id = 0; id < 2; id++) {
            due(object, starts(id, 1, 0), 0);
            due(object, starts(id, 3, 0), 0);
            due(object, starts(id, 500, 499), 0);
            due(object, starts(id, 800, 300), 0);
            due(object, starts(id, LAST, 0), 0);
            due(object, starts(id, LAST, LAST - 1), 0);
        }
    }

    private static void startsNoJobThenBadTime() {
        sentence("Promise 8: No such job: NO_JOB; then BAD_TIME");
        for (int id : WRONG_IDS) {
            for (Supplier<StrictOffsets> history : histories()) {
                due(history.get(), starts(id, 0, LAST), NO_JOB);
                due(history.get(), starts(id, -1, LAST + 1), NO_JOB);
            }
        }
        for (int time : WRONG_TIMES) {
            StrictOffsets some = some();
            due(some, starts(1, time, LAST), NO_JOB);
            due(some, starts(3, 0, time), NO_JOB);
            for (int id = 0; id <= 2; id += 2) {
                due(some, starts(id, time, 0), BAD_TIME);
                due(some, starts(id, time, LAST), BAD_TIME);
                due(some, starts(id, 0, time), BAD_TIME);
                due(some, starts(id, LAST, time), BAD_TIME);
                due(some, starts(id, time, time), BAD_TIME);
            }
            for (int id = 0; id < 10; id++) {
                due(new StrictOffsets(), starts(id, time, time), NO_JOB);
            }
        }
    }

    private static void nextStartAtOrAfter() {
        sentence("Promise 9: The first slot at or after 'from'");
        for (int first = 0; first <= 720; first += 360) {
            askNextStart(first);
        }
        askNextStart(LAST - 359);
        StrictOffsets object = with(job(360, 1, 359), job(180, 1, 30));
        due(object, nextStart(0), 30);
        due(object, nextStart(29), 30);
        due(object, nextStart(30), 30);
        due(object, nextStart(31), 210);
        due(object, nextStart(358), 359);
        due(object, nextStart(359), 359);
        due(object, nextStart(360), 390);
        due(with(job(360, 1, 0)), nextStart(0), 0);
        due(with(job(360, 1, 0)), nextStart(1), 360);
    }

    private static void askNextStart(int first) {
        StrictOffsets object = with(JOBS);
        for (int from = first; from < first + 360; from++) {
            int next = from;
            while (!begins(JOBS[0], next) && !begins(JOBS[1], next)
                    && !begins(JOBS[2], next) && !begins(JOBS[3], next)) {
                next++;
            }
            due(object, nextStart(from), next);
        }
    }

    private static void nextStartFirstSlotOfRun() {
        sentence("Promise 9: in which a job runs and which is the first slot of that run");
        for (int period : PERIODS) {
            StrictOffsets object = with(job(period, period, period - 1));
            due(object, nextStart(0), period - 1);
            due(object, nextStart(period - 1), period - 1);
            due(object, nextStart(period), 2 * period - 1);
            due(object, nextStart(2 * period - 1), 2 * period - 1);
        }
    }

    private static void nextStartNoJobs() {
        sentence("Promise 9: NO_JOB if there are no jobs");
        StrictOffsets object = new StrictOffsets();
        due(object, nextStart(0), NO_JOB);
        due(object, nextStart(LAST), NO_JOB);
        due(object, admit(2, 2), 0);
        due(object, nextStart(LAST), LAST);
        due(object, remove(0), 0);
        due(object, nextStart(0), NO_JOB);
        due(object, nextStart(LAST), NO_JOB);
        due(object, admit(7, 1), BAD_PERIOD);
        due(object, nextStart(0), NO_JOB);
    }

    private static void nextStartBadTimeFirst() {
        sentence("Promise 9: BAD_TIME (tested first)");
        for (int time : WRONG_TIMES) {
            for (Supplier<StrictOffsets> history : histories()) {
                due(history.get(), nextStart(time), BAD_TIME);
            }
        }
    }

    private static void nextStartAboveLast() {
        sentence("Promise 9: The answer may be above 1000000000");
        // 1000000000 is 280 after a multiple of 360.
        for (int offset = 0; offset < 360; offset++) {
            int later = offset >= 280 ? offset - 280 : offset + 80;
            due(with(job(360, 1, offset)), nextStart(LAST), LAST + later);
        }
        StrictOffsets two = with(job(360, 1, 279), job(90, 1, 11));
        due(two, nextStart(LAST), LAST + 1);
        due(two, nextStart(LAST - 1), LAST - 1);
        due(with(job(2, 1, 1)), nextStart(LAST), LAST + 1);
    }

    private static void roomNone() {
        sentence("Promise 10: 0 if there is no room even for 1");
        for (int period : PERIODS) {
            due(withoutRoom(), room(period), 0);
            due(tenWithoutRoom(), room(period), 0);
            due(with(job(period, period, period - 1)), room(360), 0);
            due(with(job(360, 359, 0)), room(period), period == 360 ? 1 : 0);
        }
        due(with(job(8, 1, 0)), room(9), 0);
        due(with(job(8, 1, 0)), room(2), 1);
        due(with(job(8, 2, 0)), room(2), 0);
    }

    private static void roomGreatestLength() {
        sentence("Promise 10: The greatest length a new job of this period could have at its best offset");
        for (int period : PERIODS) {
            due(new StrictOffsets(), room(period), period);
            for (int length = 1; length < period; length++) {
                for (int offset : new int[] {0, period / 2, period - 1}) {
                    due(with(job(period, length, offset)), room(period), period - length);
                }
            }
            askRoom(period, job(10, 4, 8));
            askRoom(period, JOBS);
            askRoom(period, job(360, 40, 330), job(90, 20, 20), job(360, 1, 45));
        }
    }

    private static void askRoom(int period, int[]... jobs) {
        int best = 0;
        for (int offset = 0; offset < period; offset++) {
            while (best < period && !meetsAny(job(period, best + 1, offset), jobs)) {
                best++;
            }
        }
        due(with(jobs), room(period), best);
        due(with(jobs), admit(period, best), best == 0 ? BAD_LENGTH : jobs.length);
        due(with(jobs), admit(period, best + 1), best == period ? BAD_LENGTH : NO_ROOM);
    }

    private static void roomBadPeriod() {
        sentence("Promise 10: BAD_PERIOD as in admit");
        for (Supplier<StrictOffsets> history : histories()) {
            for (int period : new int[] {MIN, -360, -2, -1, 0, 1, 7, 359, 361, 720, MAX}) {
                due(history.get(), room(period), BAD_PERIOD);
            }
        }
        for (int period = -1; period <= 361; period++) {
            due(new StrictOffsets(), room(period), isPeriod(period) ? period : BAD_PERIOD);
        }
    }

    private static void roomWithTenJobs() {
        sentence("Promise 10: Whether there are ten jobs doesn't matter");
        StrictOffsets object = ten();
        due(object, room(20), 10);
        due(object, room(360), 10);
        due(object, room(10), 0);
        due(object, admit(20, 10), FULL);
        due(object, remove(9), 9);
        due(object, room(20), 11);
        due(object, admit(20, 11), 9);
        due(object, room(20), 0);
    }

    private static void loadNoJobs() {
        sentence("Promise 11: The number of slots in 360 consecutive ones in which some job runs: with no jobs");
        StrictOffsets object = new StrictOffsets();
        due(object, load(), 0);
        due(object, admit(360, 361), BAD_LENGTH);
        due(object, load(), 0);
        due(object, admit(2, 2), 0);
        due(object, admit(2, 1), NO_ROOM);
        due(object, load(), 360);
        due(object, remove(0), 0);
        due(object, load(), 0);
    }

    private static void loadAllSlots() {
        sentence("Promise 11: The number of slots in 360 consecutive ones in which some job runs: all of them");
        for (int period : PERIODS) {
            due(with(job(period, period, 0)), load(), 360);
            due(with(job(period, period, period - 1)), load(), 360);
            StrictOffsets object = with(job(period, period - 1, 1));
            due(object, load(), 360 - 360 / period);
            due(object, admit(period, 1), 1);
            due(object, load(), 360);
        }
        due(withoutRoom(), load(), 360);
        due(tenWithoutRoom(), load(), 360);
        due(with(job(2, 1, 0), job(4, 1, 1), job(8, 1, 3), job(8, 1, 7)), load(), 360);
        due(with(job(360, 359, 1)), load(), 359);
    }

    private static void loadOnceBegun() {
        sentence("Promise 11: once all jobs have begun");
        due(with(job(360, 1, 359)), load(), 1);
        due(with(job(360, 7, 359)), load(), 7);
        due(with(job(120, 50, 119)), load(), 150);
        due(with(JOBS), load(), 150 + 30 + 45 + 1);
        due(some(), load(), 42 + 30);
    }

    private static void freeOrder() {
        sentence("Promise 12: free: BAD_TIME is tested first, then from > to");
        for (Supplier<StrictOffsets> history : histories()) {
            StrictOffsets object = history.get();
            due(object, free(0, -1), BAD_TIME);
            due(object, free(LAST, -1), BAD_TIME);
            due(object, free(LAST + 1, LAST), BAD_TIME);
            due(object, free(LAST + 1, 0), BAD_TIME);
            due(object, free(LAST + 1, -1), BAD_TIME);
            due(object, free(-1, -2), BAD_TIME);
            due(object, free(MAX, MIN), BAD_TIME);
            due(object, free(LAST, 0), 0);
        }
    }

    private static void startsOrder() {
        sentence("Promise 12: starts: NO_JOB is tested first, then BAD_TIME, then from > to");
        StrictOffsets object = with(job(2, 1, 0));
        int[][] times = {{0, -1}, {LAST, -1}, {LAST + 1, LAST}, {LAST + 1, 0}, {LAST + 1, -1}, {-1, -2}, {MAX, MIN}};
        for (int[] time : times) {
            due(object, starts(0, time[0], time[1]), BAD_TIME);
            for (int id : new int[] {MIN, -1, 1, 9, 10, MAX}) {
                due(object, starts(id, time[0], time[1]), NO_JOB);
            }
        }
        due(object, starts(1, 1, 0), NO_JOB);
        due(object, starts(10, 1, 0), NO_JOB);
        due(object, starts(0, 1, 0), 0);
        due(object, starts(0, LAST, 0), 0);
    }
}
