import java.util.ArrayList;
import java.util.List;
import java.util.function.Supplier;

/** The boundary cases that promises 1 to 4 name, on jobs that come and go: one test for each sentence. */
public final class ChangesBoundaryTest extends Boundaries {
    public static void main(String[] args) {
        begin("ChangesBoundaryTest");
        newObject();
        admitPeriod();
        admitLength();
        admitFull();
        admitNoRoom();
        admitRefused();
        admitSmallestOffset();
        admitSmallestId();
        admitAtAsAdmit();
        admitAtOffset();
        admitAtFull();
        admitAtNoRoom();
        removeNoJob();
        removeAnswers();
        end();
    }

    private static void newObject() {
        sentence("Promise 1: No jobs");
        StrictOffsets used = ten();
        StrictOffsets object = new StrictOffsets();
        for (int id = 0; id < 10; id++) {
            due(object, offset(id), NO_JOB);
            due(object, remove(id), NO_JOB);
            due(object, starts(id, 0, LAST), NO_JOB);
            due(object, running(id), NO_JOB);
        }
        due(object, running(LAST), NO_JOB);
        due(object, free(0, LAST), LAST + 1);
        due(object, nextStart(0), NO_JOB);
        due(object, load(), 0);
        for (int period : PERIODS) {
            due(object, room(period), period);
        }
        due(object, admit(360, 360), 0);
        due(object, offset(0), 0);
        due(used, load(), 180);
    }

    private static void admitPeriod() {
        sentence("Promise 2: period not in 2 to 360 or not a divisor of 360: BAD_PERIOD");
        for (int period : new int[] {MIN, -360, -2, -1, 0, 1, 7, 359, 361, 720, MAX}) {
            for (Supplier<StrictOffsets> history : histories()) {
                due(history.get(), admit(period, 1), BAD_PERIOD);
                due(history.get(), admit(period, 0), BAD_PERIOD);
                due(history.get(), admit(period, MAX), BAD_PERIOD);
                due(history.get(), admit(period, MIN), BAD_PERIOD);
            }
        }
        due(new StrictOffsets(), admit(2, 1), 0);
        due(new StrictOffsets(), admit(360, 1), 0);
    }

    private static void admitLength() {
        sentence("Promise 2: length not in 1 to period: BAD_LENGTH");
        for (int period : PERIODS) {
            for (int length : new int[] {MIN, -period, -1, 0, period + 1, 361, MAX}) {
                for (Supplier<StrictOffsets> history : histories()) {
                    due(history.get(), admit(period, length), BAD_LENGTH);
                }
            }
            due(new StrictOffsets(), admit(period, 1), 0);
            due(new StrictOffsets(), admit(period, period), 0);
        }
    }

    private static void admitFull() {
        sentence("Promise 2: there are ten jobs: FULL");
        for (int period : PERIODS) {
            due(ten(), admit(period, 1), FULL);
            due(ten(), admit(period, period), FULL);
            due(tenWithoutRoom(), admit(period, 1), FULL);
            due(tenWithoutRoom(), admit(period, period), FULL);
        }
        StrictOffsets object = ten();
        due(object, remove(9), 9);
        due(object, admit(20, 1), 9);
        due(object, admit(20, 1), FULL);
    }

    private static void admitNoRoom() {
        sentence("Promise 2: there is no such offset: NO_ROOM");
        for (int period : PERIODS) {
            due(withoutRoom(), admit(period, 1), NO_ROOM);
            due(withoutRoom(), admit(period, period), NO_ROOM);
            for (int offset : new int[] {0, period / 2, period - 1}) {
                for (int length = 1; length < period; length++) {
                    int gap = period - length;
                    due(with(job(period, length, offset)), admit(period, gap), 1);
                    due(with(job(period, length, offset)), admit(period, gap + 1), NO_ROOM);
                }
            }
        }
        due(with(job(8, 1, 0)), admit(9, 1), NO_ROOM);
        due(with(job(2, 1, 0)), admit(360, 1), 1);
        due(with(job(2, 1, 0)), admit(360, 2), NO_ROOM);
        nineWithoutRoom();
    }

    private static void nineWithoutRoom() {
        StrictOffsets object = new StrictOffsets();
        for (int id = 0; id < 9; id++) {
            due(object, admit(9, 1), id);
        }
        due(object, admit(9, 1), NO_ROOM);
        due(object, admit(360, 1), NO_ROOM);
    }

    private static void admitRefused() {
        sentence("Promise 2: A refused call changes nothing");
        for (Supplier<StrictOffsets> history : histories()) {
            dueAndNothingChanges(history, admit(7, 1), BAD_PERIOD);
            dueAndNothingChanges(history, admit(0, 0), BAD_PERIOD);
            dueAndNothingChanges(history, admit(60, 0), BAD_LENGTH);
            dueAndNothingChanges(history, admit(60, 61), BAD_LENGTH);
        }
        dueAndNothingChanges(Boundaries::ten, admit(20, 1), FULL);
        dueAndNothingChanges(Boundaries::ten, admit(20, 11), FULL);
        dueAndNothingChanges(Boundaries::tenWithoutRoom, admit(360, 1), FULL);
        dueAndNothingChanges(Boundaries::some, admit(60, 60), NO_ROOM);
        dueAndNothingChanges(Boundaries::some, admit(2, 1), NO_ROOM);
        dueAndNothingChanges(Boundaries::withoutRoom, admit(360, 1), NO_ROOM);
    }

    private static void admitSmallestOffset() {
        sentence("Promise 2: the smallest offset 0 <= o < period at which it never runs in a slot in which another job runs");
        for (int period : PERIODS) {
            for (int length = 1; length <= period; length += 1 + length / 4) {
                askSmallestOffset(period, length);
                askSmallestOffset(period, length, job(10, 4, 8));
                askSmallestOffset(period, length, job(12, 5, 10), job(36, 3, 3), job(24, 3, 18));
                askSmallestOffset(period, length, job(360, 40, 330), job(90, 20, 20), job(360, 1, 45));
                askSmallestOffset(period, length, job(40, 6, 10), job(60, 10, 0), job(360, 4, 16));
            }
        }
    }

    private static void askSmallestOffset(int period, int length, int[]... jobs) {
        int smallest = 0;
        while (smallest < period && meetsAny(job(period, length, smallest), jobs)) {
            smallest++;
        }
        StrictOffsets object = with(jobs);
        due(object, admit(period, length), smallest < period ? jobs.length : NO_ROOM);
        due(object, offset(jobs.length), smallest < period ? smallest : NO_JOB);
    }

    private static void admitSmallestId() {
        sentence("Promise 2: the smallest id from 0 that no job has");
        for (int taken = 0; taken < 1024; taken++) {
            askSmallestIds(taken, admit(20, 1));
        }
    }

    /** Of ten jobs takes those out whose bits are not set, and lets others in by the same call. */
    private static void askSmallestIds(int taken, Call call) {
        StrictOffsets object = ten();
        List<Integer> ids = new ArrayList<>();
        for (int id = 0; id < 10; id++) {
            if ((taken >> id & 1) == 0) {
                object.remove(id);
                ids.add(id);
            }
        }
        for (int id : ids) {
            due(object, call, id);
            due(object, offset(id), id);
        }
        due(object, call, FULL);
    }

    private static void admitAtAsAdmit() {
        sentence("Promise 3: As admit, but at this offset");
        for (Supplier<StrictOffsets> history : histories()) {
            for (int offset : new int[] {MIN, -1, 0, 360, MAX}) {
                due(history.get(), admitAt(1, 1, offset), BAD_PERIOD);
                due(history.get(), admitAt(7, 0, offset), BAD_PERIOD);
                due(history.get(), admitAt(361, 362, offset), BAD_PERIOD);
                due(history.get(), admitAt(60, 0, offset), BAD_LENGTH);
                due(history.get(), admitAt(60, 61, offset), BAD_LENGTH);
            }
            dueAndNothingChanges(history, admitAt(7, 1, 0), BAD_PERIOD);
            dueAndNothingChanges(history, admitAt(60, 61, 0), BAD_LENGTH);
            dueAndNothingChanges(history, admitAt(60, 1, 60), BAD_OFFSET);
        }
        dueAndNothingChanges(Boundaries::ten, admitAt(20, 1, 10), FULL);
        dueAndNothingChanges(Boundaries::some, admitAt(60, 1, 7), NO_ROOM);
        dueAndNothingChanges(Boundaries::withoutRoom, admitAt(360, 1, 0), NO_ROOM);
        for (int id = 0; id < 10; id++) {
            askSmallestIds(1023 - (1 << id), admitAt(20, 1, id));
            askWithJobsBelow(id);
        }
    }

    private static void askWithJobsBelow(int id) {
        StrictOffsets object = ten();
        for (int other = 9; other >= id; other--) {
            due(object, remove(other), other);
        }
        due(object, admitAt(360, 2, 20 * id + 12), id);
        due(object, offset(id), 20 * id + 12);
    }

    private static void admitAtOffset() {
        sentence("Promise 3: after BAD_LENGTH, offset not in 0 to period - 1: BAD_OFFSET");
        for (int period : PERIODS) {
            for (int offset : new int[] {MIN, -period, -1, period, period + 1, 360, MAX}) {
                for (Supplier<StrictOffsets> history : histories()) {
                    due(history.get(), admitAt(period, 1, offset), BAD_OFFSET);
                    due(history.get(), admitAt(period, period, offset), BAD_OFFSET);
                    due(history.get(), admitAt(period, 0, offset), BAD_LENGTH);
                    due(history.get(), admitAt(period, period + 1, offset), BAD_LENGTH);
                }
            }
            for (int offset = 0; offset < period; offset++) {
                due(with(job(period, 1, offset)), offset(0), offset);
                due(with(job(period, period, offset)), offset(0), offset);
            }
        }
    }

    private static void admitAtFull() {
        sentence("Promise 3: then FULL");
        for (int period : PERIODS) {
            for (int offset : new int[] {0, period / 2, period - 1}) {
                due(ten(), admitAt(period, 1, offset), FULL);
                due(ten(), admitAt(period, period, offset), FULL);
                due(tenWithoutRoom(), admitAt(period, 1, offset), FULL);
            }
            due(ten(), admitAt(period, 1, -1), BAD_OFFSET);
            due(ten(), admitAt(period, 1, period), BAD_OFFSET);
        }
    }

    private static void admitAtNoRoom() {
        sentence("Promise 3: it would meet another job: NO_ROOM");
        int[][] jobs = {job(12, 2, 11), job(36, 3, 3), job(24, 3, 18)};
        for (int period : PERIODS) {
            for (int offset = 0; offset < period; offset++) {
                for (int length = 1; length <= period; length += 1 + length / 3) {
                    boolean meets = meetsAny(job(period, length, offset), jobs);
                    due(with(jobs), admitAt(period, length, offset), meets ? NO_ROOM : 3);
                }
                due(withoutRoom(), admitAt(period, 1, offset), NO_ROOM);
            }
        }
    }

    private static void removeNoJob() {
        sentence("Promise 4: No job has this id: NO_JOB, nothing changes");
        for (int id : WRONG_IDS) {
            for (Supplier<StrictOffsets> history : histories()) {
                dueAndNothingChanges(history, remove(id), NO_JOB);
            }
        }
        for (int id = 0; id < 10; id++) {
            dueAndNothingChanges(StrictOffsets::new, remove(id), NO_JOB);
        }
        dueAndNothingChanges(Boundaries::some, remove(1), NO_JOB);
        dueAndNothingChanges(Boundaries::some, remove(3), NO_JOB);
        dueAndNothingChanges(Boundaries::withoutRoom, remove(2), NO_JOB);
    }

    private static void removeAnswers() {
        sentence("Promise 4: Else answers how many jobs are left");
        for (int order = 1; order < 11; order++) {
            askToTheLastJob(order);
        }
        StrictOffsets object = withoutRoom();
        due(object, remove(0), 1);
        due(object, offset(0), NO_JOB);
        due(object, room(360), 200);
        due(object, admitAt(360, 200, 300), 0);
    }

    /** Takes ten jobs out in an order of its own: the powers of 2 modulo 11 meet every id, from each beginning. */
    private static void askToTheLastJob(int beginning) {
        StrictOffsets object = ten();
        int next = beginning;
        for (int left = 9; left >= 0; left--) {
            due(object, remove(next - 1), left);
            due(object, remove(next - 1), NO_JOB);
            due(object, offset(next - 1), NO_JOB);
            due(object, running(next - 1), NO_JOB);
            due(object, load(), 18 * left);
            next = next * 2 % 11;
        }
        due(object, nextStart(0), NO_JOB);
        due(object, admit(360, 360), 0);
    }
}
