import java.util.List;
import java.util.function.Supplier;

/** What the tests of the document's boundary cases share: the calls, some objects to call, and the terms. */
class Boundaries {
    static final int LAST = 1000000000;
    static final int MIN = Integer.MIN_VALUE;
    static final int MAX = Integer.MAX_VALUE;
    static final int[] PERIODS = {
        2, 3, 4, 5, 6, 8, 9, 10, 12, 15, 18, 20, 24, 30, 36, 40, 45, 60, 72, 90, 120, 180, 360
    };
    static final int[] WRONG_TIMES = {MIN, -LAST, -360, -1, LAST + 1, LAST + 360, MAX};
    static final int[] WRONG_IDS = {MIN, -10, -1, 10, 11, 360, MAX};

    static final int BAD_PERIOD = StrictOffsets.BAD_PERIOD;
    static final int BAD_LENGTH = StrictOffsets.BAD_LENGTH;
    static final int BAD_OFFSET = StrictOffsets.BAD_OFFSET;
    static final int FULL = StrictOffsets.FULL;
    static final int NO_ROOM = StrictOffsets.NO_ROOM;
    static final int NO_JOB = StrictOffsets.NO_JOB;
    static final int BAD_TIME = StrictOffsets.BAD_TIME;

    private static Due due;

    static void begin(String test) {
        due = new Due(test);
    }

    static void end() {
        due.end();
    }

    static void sentence(String words) {
        due.sentence(words);
    }

    static void due(StrictOffsets object, Call call, int want) {
        due.due(call.text(), call.on(object), want);
    }

    static Call admit(int period, int length) {
        return new Call("admit(" + period + ", " + length + ")", x -> x.admit(period, length));
    }

    static Call admitAt(int period, int length, int offset) {
        return new Call("admitAt(" + period + ", " + length + ", " + offset + ")",
                x -> x.admitAt(period, length, offset));
    }

    static Call remove(int id) {
        return new Call("remove(" + id + ")", x -> x.remove(id));
    }

    static Call offset(int id) {
        return new Call("offset(" + id + ")", x -> x.offset(id));
    }

    static Call running(int time) {
        return new Call("running(" + time + ")", x -> x.running(time));
    }

    static Call free(int from, int to) {
        return new Call("free(" + from + ", " + to + ")", x -> x.free(from, to));
    }

    static Call starts(int id, int from, int to) {
        return new Call("starts(" + id + ", " + from + ", " + to + ")", x -> x.starts(id, from, to));
    }

    static Call nextStart(int from) {
        return new Call("nextStart(" + from + ")", x -> x.nextStart(from));
    }

    static Call room(int period) {
        return new Call("room(" + period + ")", x -> x.room(period));
    }

    static Call load() {
        return new Call("load()", StrictOffsets::load);
    }

    static int[] job(int period, int length, int offset) {
        return new int[] {period, length, offset};
    }

    /** A new object with these jobs, their ids from 0. */
    static StrictOffsets with(int[]... jobs) {
        StrictOffsets object = new StrictOffsets();
        for (int id = 0; id < jobs.length; id++) {
            due(object, admitAt(jobs[id][0], jobs[id][1], jobs[id][2]), id);
        }
        return object;
    }

    /** Ids 0 and 2, the first of which wraps; id 1 is to be had again. */
    static StrictOffsets some() {
        StrictOffsets object = with(job(60, 7, 55), job(60, 5, 2), job(120, 10, 7));
        due(object, remove(1), 2);
        return object;
    }

    /** Ten jobs, with room for more. */
    static StrictOffsets ten() {
        return tenOfPeriod(20);
    }

    /** Ten jobs that take every slot. */
    static StrictOffsets tenWithoutRoom() {
        return tenOfPeriod(10);
    }

    private static StrictOffsets tenOfPeriod(int period) {
        StrictOffsets object = new StrictOffsets();
        for (int id = 0; id < 10; id++) {
            due(object, admitAt(period, 1, id), id);
        }
        return object;
    }

    /** Two jobs that take every slot from 300 on. */
    static StrictOffsets withoutRoom() {
        return with(job(360, 200, 300), job(360, 160, 140));
    }

    static List<Supplier<StrictOffsets>> histories() {
        return List.of(StrictOffsets::new, Boundaries::some, Boundaries::ten,
                Boundaries::tenWithoutRoom, Boundaries::withoutRoom);
    }

    /** Asks for this answer three times over, and that all other answers stay as they are without these calls. */
    static void dueAndNothingChanges(Supplier<StrictOffsets> history, Call call, int want) {
        nothingChanges(history, call, () -> {
            StrictOffsets object = history.get();
            for (int time = 0; time < 3; time++) {
                due(object, call, want);
            }
            return object;
        });
    }

    /** As above, where only the change matters, not the answer. */
    static void nothingChanges(Supplier<StrictOffsets> history, Call call) {
        nothingChanges(history, call, () -> {
            StrictOffsets object = history.get();
            call.on(object);
            return object;
        });
    }

    private static void nothingChanges(Supplier<StrictOffsets> history, Call call, Supplier<StrictOffsets> longer) {
        List<Integer> before = Answers.of(history);
        List<Integer> after = Answers.of(longer);
        int changed = 0;
        for (int index = 0; index < before.size(); index++) {
            changed += before.get(index).equals(after.get(index)) ? 0 : 1;
        }
        due.due("the number of answers changed by " + call.text(), changed, 0);
    }

    static boolean isPeriod(int number) {
        for (int period : PERIODS) {
            if (period == number) {
                return true;
            }
        }
        return false;
    }

    /** As the terms say it: o + k * p + i with k >= 0 and 0 <= i < c. */
    static boolean runs(int[] job, int slot) {
        return slot >= job[2] && (slot - job[2]) % job[0] < job[1];
    }

    static boolean begins(int[] job, int slot) {
        return slot >= job[2] && (slot - job[2]) % job[0] == 0;
    }

    /** From slot 360 on all jobs have begun and the slots repeat every 360: jobs meet there, or never. */
    static boolean meet(int[] one, int[] other) {
        for (int slot = 360; slot < 720; slot++) {
            if (runs(one, slot) && runs(other, slot)) {
                return true;
            }
        }
        return false;
    }

    static boolean meetsAny(int[] job, int[]... others) {
        for (int[] other : others) {
            if (meet(job, other)) {
                return true;
            }
        }
        return false;
    }
}
