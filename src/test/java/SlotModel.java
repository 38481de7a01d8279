import java.util.Arrays;

/**
 * The machine as the document's terms tell it, slot by slot: no formula of the
 * program is used here, so that the two can be compared.
 */
final class SlotModel {
    static final int LAST = 1000000000;
    /** From slot 360 on every job has begun, and what runs repeats every 360 slots. */
    private static final int SEEN = 3 * 360;

    private final int[][] jobs = new int[10][];

    /** The ids, per slot, as the jobs run, or -6. */
    private int[] timeline() {
        int[] slots = new int[SEEN];
        Arrays.fill(slots, -6);
        for (int id = 0; id < 10; id++) {
            if (jobs[id] != null) {
                for (int start = jobs[id][2]; start < SEEN; start += jobs[id][0]) {
                    for (int slot = start; slot < start + jobs[id][1] && slot < SEEN; slot++) {
                        slots[slot] = id;
                    }
                }
            }
        }
        return slots;
    }

    /** The greatest length with which no slot of a job of this period and offset is taken. */
    private static int longest(int[] taken, int period, int offset) {
        int length = 0;
        while (length < period && isIdle(taken, offset + length, period)) {
            length++;
        }
        return length;
    }

    private static boolean isIdle(int[] taken, int first, int period) {
        for (int slot = first; slot < SEEN; slot += period) {
            if (taken[slot] != -6) {
                return false;
            }
        }
        return true;
    }

    private static boolean isPeriod(int period) {
        return period >= 2 && period <= 360 && 360 % period == 0;
    }

    private static boolean isTime(int time) {
        return time >= 0 && time <= LAST;
    }

    private int freeId() {
        int id = 0;
        while (id < 10 && jobs[id] != null) {
            id++;
        }
        return id;
    }

    private boolean isJob(int id) {
        return id >= 0 && id < 10 && jobs[id] != null;
    }

    int admit(int period, int length) {
        if (!isPeriod(period)) {
            return -1;
        }
        if (length < 1 || length > period) {
            return -2;
        }
        int id = freeId();
        if (id == 10) {
            return -4;
        }
        int[] taken = timeline();
        for (int offset = 0; offset < period; offset++) {
            if (longest(taken, period, offset) >= length) {
                jobs[id] = new int[] {period, length, offset};
                return id;
            }
        }
        return -5;
    }

    int admitAt(int period, int length, int offset) {
        if (!isPeriod(period)) {
            return -1;
        }
        if (length < 1 || length > period) {
            return -2;
        }
        if (offset < 0 || offset >= period) {
            return -3;
        }
        int id = freeId();
        if (id == 10) {
            return -4;
        }
        if (longest(timeline(), period, offset) < length) {
            return -5;
        }
        jobs[id] = new int[] {period, length, offset};
        return id;
    }

    int remove(int id) {
        if (!isJob(id)) {
            return -6;
        }
        jobs[id] = null;
        int left = 0;
        for (int[] job : jobs) {
            left += job == null ? 0 : 1;
        }
        return left;
    }

    int offset(int id) {
        return isJob(id) ? jobs[id][2] : -6;
    }

    /** The slot of the first 1080 in which the same runs and begins as at this time. */
    private static int seen(int time) {
        return time < 720 ? time : 360 + time % 360;
    }

    int running(int time) {
        return isTime(time) ? timeline()[seen(time)] : -7;
    }

    /** How many of the slots from..to are marked, where the marks repeat every 360 slots from 360 on. */
    private static int count(boolean[] marked, int from, int to) {
        long sum = 0;
        long time = from;
        while (time <= to) {
            if (time >= 360 && to - time >= 360) {
                int cycle = 0;
                for (int slot = 360; slot < 720; slot++) {
                    cycle += marked[slot] ? 1 : 0;
                }
                long cycles = (to - time) / 360;
                sum += cycles * cycle;
                time += cycles * 360;
            }
            sum += marked[seen((int) time)] ? 1 : 0;
            time++;
        }
        return (int) sum;
    }

    int free(int from, int to) {
        if (!isTime(from) || !isTime(to)) {
            return -7;
        }
        int[] taken = timeline();
        boolean[] idle = new boolean[SEEN];
        for (int slot = 0; slot < SEEN; slot++) {
            idle[slot] = taken[slot] == -6;
        }
        return count(idle, from, to);
    }

    private void markStarts(boolean[] begins, int id) {
        for (int start = jobs[id][2]; start < SEEN; start += jobs[id][0]) {
            begins[start] = true;
        }
    }

    int starts(int id, int from, int to) {
        if (!isJob(id)) {
            return -6;
        }
        if (!isTime(from) || !isTime(to)) {
            return -7;
        }
        boolean[] begins = new boolean[SEEN];
        markStarts(begins, id);
        return count(begins, from, to);
    }

    int nextStart(int from) {
        if (!isTime(from)) {
            return -7;
        }
        boolean[] begins = new boolean[SEEN];
        for (int id = 0; id < 10; id++) {
            if (jobs[id] != null) {
                markStarts(begins, id);
            }
        }
        for (int time = from; time <= from + 720; time++) {
            if (begins[seen(time)]) {
                return time;
            }
        }
        return -6;
    }

    int room(int period) {
        if (!isPeriod(period)) {
            return -1;
        }
        int[] taken = timeline();
        int best = 0;
        for (int offset = 0; offset < period; offset++) {
            best = Math.max(best, longest(taken, period, offset));
        }
        return best;
    }

    int load() {
        int[] taken = timeline();
        int sum = 0;
        for (int slot = 360; slot < 720; slot++) {
            sum += taken[slot] == -6 ? 0 : 1;
        }
        return sum;
    }
}
