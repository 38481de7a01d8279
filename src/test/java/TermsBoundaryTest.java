import java.util.ArrayList;
import java.util.List;
import java.util.function.Supplier;

/** The boundary cases that the document names before its promises: one test for each sentence. */
public final class TermsBoundaryTest extends Boundaries {
    public static void main(String[] args) {
        begin("TermsBoundaryTest");
        callsUpTo512();
        tenJobs();
        offsets();
        wrappingRuns();
        periods();
        lengths();
        noTwoJobsInTheSameSlot();
        noTwoJobsLater();
        noRunMeetsTheNext();
        noRunBeforeTheFirst();
        times();
        callsThatChangeNothing();
        end();
    }

    private static void callsUpTo512() {
        sentence("An object is used for at most 512 calls after it has been made");
        due(after511Calls(), admit(10, 6), 1);
        due(after511Calls(), admitAt(10, 6, 2), 1);
        due(after511Calls(), remove(0), 0);
        due(after511Calls(), offset(0), 8);
        due(after511Calls(), running(11), 0);
        due(after511Calls(), free(0, 12), 9);
        due(after511Calls(), starts(0, 0, 18), 2);
        due(after511Calls(), nextStart(9), 18);
        due(after511Calls(), room(10), 6);
        due(after511Calls(), load(), 144);
    }

    private static StrictOffsets after511Calls() {
        StrictOffsets object = with(job(10, 4, 8));
        for (int pair = 0; pair < 255; pair++) {
            due(object, admit(10, 6), 1);
            due(object, remove(1), 1);
        }
        return object;
    }

    private static void tenJobs() {
        sentence("Up to ten JOBS (ids 0 to 9)");
        StrictOffsets object = new StrictOffsets();
        for (int id = 0; id < 10; id++) {
            due(object, offset(id), NO_JOB);
            due(object, admit(360, 1), id);
            due(object, offset(id), id);
        }
        due(object, admit(360, 1), FULL);
        due(object, admitAt(360, 1, 10), FULL);
        due(object, offset(10), NO_JOB);
        due(object, load(), 10);
    }

    private static void offsets() {
        sentence("an offset o with 0 <= o < p");
        for (int period : PERIODS) {
            due(new StrictOffsets(), admitAt(period, 1, -1), BAD_OFFSET);
            due(new StrictOffsets(), admitAt(period, 1, period), BAD_OFFSET);
            due(with(job(period, 1, 0)), offset(0), 0);
            due(with(job(period, 1, period - 1)), offset(0), period - 1);

            StrictOffsets last = with(job(period, period - 1, 0));
            due(last, admit(period, 1), 1);
            due(last, offset(1), period - 1);

            StrictOffsets none = with(job(period, period, 0));
            due(none, admit(period, 1), NO_ROOM);
        }
    }

    private static void wrappingRuns() {
        sentence("the last slots of a run may belong to the next period's beginning");
        for (int period : PERIODS) {
            StrictOffsets object = with(job(period, 2, period - 1));
            due(object, running(period - 1), 0);
            due(object, running(period), 0);
            due(object, running(2 * period - 1), 0);
            due(object, running(2 * period), 0);
            due(object, free(period - 1, period), 0);
            due(object, starts(0, period, period), 0);
            due(object, nextStart(period), 2 * period - 1);
            due(object, load(), 2 * (360 / period));
            due(object, admitAt(period, 1, 0), NO_ROOM);
            due(object, admitAt(360, 1, 0), NO_ROOM);
            due(object, room(period), period - 2);
            due(object, running(period + 1), period == 2 ? 0 : NO_JOB);
            due(object, admitAt(period, 1, 1), period == 2 ? NO_ROOM : 1);
        }
        longestWrap();
    }

    private static void longestWrap() {
        StrictOffsets object = with(job(360, 360, 359));
        due(object, running(359), 0);
        due(object, running(718), 0);
        due(object, running(719), 0);
        due(object, free(359, LAST), 0);
    }

    private static void periods() {
        sentence("Periods are the numbers from 2 to 360 that divide 360");
        for (int period = -721; period <= 721; period++) {
            askPeriod(period);
        }
        for (int period : new int[] {MIN, MIN + 1, -LAST, LAST, MAX - 7, MAX}) {
            askPeriod(period);
        }
    }

    private static void askPeriod(int period) {
        due(new StrictOffsets(), admit(period, 1), isPeriod(period) ? 0 : BAD_PERIOD);
        due(new StrictOffsets(), admitAt(period, 1, 0), isPeriod(period) ? 0 : BAD_PERIOD);
        due(new StrictOffsets(), room(period), isPeriod(period) ? period : BAD_PERIOD);
    }

    private static void lengths() {
        sentence("lengths are 1 to p");
        for (int period : PERIODS) {
            for (int length = -1; length <= period + 1; length++) {
                askLength(period, length, length >= 1 && length <= period);
            }
            for (int length : new int[] {MIN, -period, 2 * period, 361, MAX}) {
                askLength(period, length, false);
            }
        }
    }

    private static void askLength(int period, int length, boolean right) {
        due(new StrictOffsets(), admit(period, length), right ? 0 : BAD_LENGTH);
        due(new StrictOffsets(), admitAt(period, length, period - 1), right ? 0 : BAD_LENGTH);
    }

    private static void noTwoJobsInTheSameSlot() {
        sentence("No two jobs ever run in the same slot");
        for (int period : PERIODS) {
            for (int length : new int[] {1, (period + 1) / 2, period - 1}) {
                askEveryPeriodBeside(job(period, length, 0));
                askEveryPeriodBeside(job(period, length, period / 3));
                askEveryPeriodBeside(job(period, length, period - 1));
            }
        }
    }

    private static void askEveryPeriodBeside(int[] first) {
        for (int period : PERIODS) {
            for (int offset = 0; offset < period; offset++) {
                askBeside(first, job(period, 1, offset));
                askBeside(first, job(period, (period + 2) / 3, offset));
            }
        }
    }

    private static void askBeside(int[] first, int[] second) {
        due(with(first), admitAt(second[0], second[1], second[2]), meet(first, second) ? NO_ROOM : 1);
    }

    private static void noTwoJobsLater() {
        sentence("now or at any later time");
        // Each pair meets for the first time in the slot that is named, or never.
        due(with(job(8, 1, 7)), admitAt(9, 1, 8), NO_ROOM); // 71
        due(with(job(8, 1, 7)), admitAt(45, 1, 44), NO_ROOM); // 359
        due(with(job(360, 2, 359)), admitAt(360, 1, 0), NO_ROOM); // 360
        due(with(job(360, 2, 359)), admitAt(360, 1, 1), 1);
        due(with(job(360, 1, 0)), admitAt(360, 2, 359), NO_ROOM); // 360
        due(with(job(360, 1, 1)), admitAt(360, 2, 359), 1);
        due(with(job(360, 360, 359)), admitAt(360, 1, 358), NO_ROOM); // 718
        due(with(job(360, 359, 359)), admitAt(360, 1, 358), 1);
        due(with(job(360, 1, 358)), admitAt(360, 360, 359), NO_ROOM); // 718
        due(with(job(360, 1, 358)), admitAt(360, 359, 359), 1);
    }

    private static void noRunMeetsTheNext() {
        sentence("nor does a run of a job meet the next run of the same job (c <= p)");
        for (int period : PERIODS) {
            for (int offset : new int[] {0, period / 2, period - 1}) {
                due(new StrictOffsets(), admitAt(period, period + 1, offset), BAD_LENGTH);
                StrictOffsets object = with(job(period, period, offset));
                due(object, running(offset), 0);
                due(object, running(offset + period - 1), 0);
                due(object, running(offset + period), 0);
                due(object, free(offset, offset + 3 * period), 0);
                due(object, starts(0, offset, offset + period - 1), 1);
                due(object, starts(0, offset, offset + period), 2);
                due(object, nextStart(offset + 1), offset + period);
                due(object, load(), 360);
            }
        }
    }

    private static void noRunBeforeTheFirst() {
        sentence("A run that would have begun before slot 0 doesn't exist: a job's first slot is o");
        for (int period : PERIODS) {
            for (int offset = 1; offset < period; offset++) {
                askBeforeTheFirst(job(period, period - offset + 1, offset));
                askBeforeTheFirst(job(period, period, offset));
            }
        }
    }

    /** This job's length brings it into slot 0 of every period but the first. */
    private static void askBeforeTheFirst(int[] late) {
        int first = late[2];
        StrictOffsets object = with(late);
        due(object, running(0), NO_JOB);
        due(object, running(first - 1), NO_JOB);
        due(object, running(first), 0);
        due(object, running(late[0]), 0);
        due(object, free(0, first - 1), first);
        due(object, free(0, first), first);
        due(object, free(0, late[0]), first);
        due(object, starts(0, 0, first - 1), 0);
        due(object, starts(0, 0, first), 1);
        due(object, nextStart(0), first);
    }

    private static void times() {
        sentence("Times are 0 to 1000000000; others are BAD_TIME");
        StrictOffsets object = with(job(10, 1, 0));
        due(object, running(0), 0);
        due(object, running(LAST), 0);
        due(object, free(0, 0), 0);
        due(object, free(0, LAST), 900000000);
        due(object, free(LAST, LAST), 0);
        due(object, starts(0, 0, 0), 1);
        due(object, starts(0, 0, LAST), 100000001);
        due(object, starts(0, LAST, LAST), 1);
        due(object, nextStart(0), 0);
        due(object, nextStart(LAST), LAST);
        for (int time : WRONG_TIMES) {
            due(object, running(time), BAD_TIME);
            due(object, free(time, LAST), BAD_TIME);
            due(object, free(0, time), BAD_TIME);
            due(object, free(time, time), BAD_TIME);
            due(object, starts(0, time, LAST), BAD_TIME);
            due(object, starts(0, 0, time), BAD_TIME);
            due(object, starts(0, time, time), BAD_TIME);
            due(object, nextStart(time), BAD_TIME);
        }
    }

    private static void callsThatChangeNothing() {
        sentence("The calls below change nothing");
        for (Supplier<StrictOffsets> history : histories()) {
            for (Call call : callsThatOnlyAsk()) {
                nothingChanges(history, call);
            }
        }
    }

    private static List<Call> callsThatOnlyAsk() {
        List<Call> calls = new ArrayList<>();
        for (int id : new int[] {-1, 0, 1, 2, 9, 10}) {
            calls.add(offset(id));
            calls.add(starts(id, 0, 720));
            calls.add(starts(id, 720, 0));
            calls.add(starts(id, -1, LAST + 1));
        }
        for (int time : new int[] {-1, 0, 5, 359, LAST, LAST + 1}) {
            calls.add(running(time));
            calls.add(nextStart(time));
            calls.add(free(time, LAST));
            calls.add(free(0, time));
        }
        for (int period : new int[] {-2, 0, 1, 2, 7, 60, 360, 361}) {
            calls.add(room(period));
        }
        calls.add(load());
        return calls;
    }
}
