public final class StrictOffsets {
    public static final int BAD_PERIOD = -1;
    public static final int BAD_LENGTH = -2;
    public static final int BAD_OFFSET = -3;
    public static final int FULL = -4;
    public static final int NO_ROOM = -5;
    public static final int NO_JOB = -6;
    public static final int BAD_TIME = -7;

    private static final int CYCLE = 360;
    private static final int SHORTEST_PERIOD = 2;
    private static final int MAX_JOBS = 10;
    private static final int LAST_TIME = 1000000000;
    private static final int FITTING = 0;

    // A period of 0 marks an id that no job has, so that looking for the job
    // is also the look at the divisor.
    private final int[] periods = new int[MAX_JOBS];
    private final int[] lengths = new int[MAX_JOBS];
    private final int[] offsets = new int[MAX_JOBS];

    public StrictOffsets() {
    }

    public int admit(int period, int length) {
        int fault = faultOf(period, length);
        if (fault != FITTING) {
            return fault;
        }
        int id = smallestFreeId();
        if (id == MAX_JOBS) {
            return FULL;
        }
        for (int offset = 0; offset < period; offset++) {
            if (greatestLengthAt(period, offset) >= length) {
                return place(id, period, length, offset);
            }
        }
        return NO_ROOM;
    }

    public int admitAt(int period, int length, int offset) {
        int fault = faultOf(period, length);
        if (fault != FITTING) {
            return fault;
        }
        if (offset < 0 || offset >= period) {
            return BAD_OFFSET;
        }
        int id = smallestFreeId();
        if (id == MAX_JOBS) {
            return FULL;
        }
        if (greatestLengthAt(period, offset) < length) {
            return NO_ROOM;
        }
        return place(id, period, length, offset);
    }

    public int remove(int id) {
        if (!isJob(id)) {
            return NO_JOB;
        }
        periods[id] = 0;
        lengths[id] = 0;
        offsets[id] = 0;
        return countJobs();
    }

    public int offset(int id) {
        return isJob(id) ? offsets[id] : NO_JOB;
    }

    public int running(int time) {
        if (!isTime(time)) {
            return BAD_TIME;
        }
        for (int id = 0; id < MAX_JOBS; id++) {
            // Before its offset a job has not begun, even where a run that
            // wraps past the period's end would reach.
            if (periods[id] > 0 && time >= offsets[id]
                    && (time - offsets[id]) % periods[id] < lengths[id]) {
                return id;
            }
        }
        return NO_JOB;
    }

    public int free(int from, int to) {
        if (!isTime(from) || !isTime(to)) {
            return BAD_TIME;
        }
        if (from > to) {
            return 0;
        }
        int slots = to - from + 1;
        for (int id = 0; id < MAX_JOBS; id++) {
            // No two jobs share a slot, so no slot is taken off twice.
            slots -= slotsBefore(id, to + 1) - slotsBefore(id, from);
        }
        return slots;
    }

    public int starts(int id, int from, int to) {
        if (!isJob(id)) {
            return NO_JOB;
        }
        if (!isTime(from) || !isTime(to)) {
            return BAD_TIME;
        }
        if (from > to) {
            return 0;
        }
        return startsBefore(id, to + 1) - startsBefore(id, from);
    }

    public int nextStart(int from) {
        if (!isTime(from)) {
            return BAD_TIME;
        }
        int first = NO_JOB;
        for (int id = 0; id < MAX_JOBS; id++) {
            if (periods[id] > 0) {
                int start = offsets[id] + startsBefore(id, from) * periods[id];
                if (first == NO_JOB || start < first) {
                    first = start;
                }
            }
        }
        return first;
    }

    public int room(int period) {
        if (!isPeriod(period)) {
            return BAD_PERIOD;
        }
        int best = 0;
        for (int offset = 0; offset < period; offset++) {
            int longest = greatestLengthAt(period, offset);
            if (longest > best) {
                best = longest;
            }
        }
        return best;
    }

    public int load() {
        int slots = 0;
        for (int id = 0; id < MAX_JOBS; id++) {
            if (periods[id] > 0) {
                slots += CYCLE / periods[id] * lengths[id];
            }
        }
        return slots;
    }

    private static boolean isPeriod(int period) {
        return period >= SHORTEST_PERIOD && period <= CYCLE && CYCLE % period == 0;
    }

    private static boolean isTime(int time) {
        return time >= 0 && time <= LAST_TIME;
    }

    private boolean isJob(int id) {
        return id >= 0 && id < MAX_JOBS && periods[id] > 0;
    }

    private static int faultOf(int period, int length) {
        if (!isPeriod(period)) {
            return BAD_PERIOD;
        }
        if (length < 1 || length > period) {
            return BAD_LENGTH;
        }
        return FITTING;
    }

    private int smallestFreeId() {
        for (int id = 0; id < MAX_JOBS; id++) {
            if (periods[id] == 0) {
                return id;
            }
        }
        return MAX_JOBS;
    }

    private int countJobs() {
        int jobs = 0;
        for (int id = 0; id < MAX_JOBS; id++) {
            if (periods[id] > 0) {
                jobs++;
            }
        }
        return jobs;
    }

    private int place(int id, int period, int length, int offset) {
        periods[id] = period;
        lengths[id] = length;
        offsets[id] = offset;
        return id;
    }

    private int greatestLengthAt(int period, int offset) {
        int longest = period;
        for (int id = 0; id < MAX_JOBS; id++) {
            if (periods[id] > 0) {
                int slots = slotsUntilMeeting(id, period, offset);
                if (slots < longest) {
                    longest = slots;
                }
            }
        }
        return longest;
    }

    private int slotsUntilMeeting(int id, int period, int offset) {
        // Over all time the runs of two jobs come to lie at every distance that
        // is the same modulo the greatest common divisor of their periods, so
        // the two meet somewhere if and only if they meet modulo that divisor.
        int common = commonDivisor(period, periods[id]);
        if (common < 1) {
            return 0;
        }
        // The cycle is a multiple of the divisor: adding it only keeps the
        // distance from being negative.
        int distance = (offset + CYCLE - offsets[id]) % common;
        return distance < lengths[id] ? 0 : common - distance;
    }

    private static int commonDivisor(int a, int b) {
        int divisor = a;
        int rest = b;
        // The rest gets smaller with every step and is a period at first.
        for (int step = 0; step <= CYCLE && rest > 0; step++) {
            int next = divisor % rest;
            divisor = rest;
            rest = next;
        }
        return divisor;
    }

    private int startsBefore(int id, int time) {
        if (!isJob(id) || time <= offsets[id]) {
            return 0;
        }
        return (time - offsets[id] - 1) / periods[id] + 1;
    }

    private int slotsBefore(int id, int time) {
        if (!isJob(id) || time <= offsets[id]) {
            return 0;
        }
        int whole = (time - offsets[id]) / periods[id];
        int begun = (time - offsets[id]) % periods[id];
        return whole * lengths[id] + (begun < lengths[id] ? begun : lengths[id]);
    }
}
