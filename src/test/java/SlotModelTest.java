/** Long runs of calls, the same ones every time, compared with the slot by slot model. */
public final class SlotModelTest {
    private static final int RUNS = 200;
    private static final int CALLS = 512;
    private static final int[][] PERIODS = {
        {2, 3, 4, 5, 6, 8, 9, 10, 12, 15, 18, 20, 24, 30, 36, 40, 45, 60, 72, 90, 120, 180, 360},
        {12, 24, 36, 60, 72, 120, 180, 360},
        {40, 120, 180, 360},
        {20, 40, 60, 120},
    };
    private static final int[] ODD = {
        Integer.MIN_VALUE, -360, -7, -1, 0, 1, 7, 10, 359, 361, 720,
        SlotModel.LAST - 1, SlotModel.LAST, SlotModel.LAST + 1, Integer.MAX_VALUE,
    };

    private static long seed = 20261115L;

    private final Due due;
    private final int[] periods;
    private final StrictOffsets program = new StrictOffsets();
    private final SlotModel model = new SlotModel();

    private SlotModelTest(Due due, int[] periods) {
        this.due = due;
        this.periods = periods;
    }

    public static void main(String[] args) {
        Due due = new Due("SlotModelTest");
        for (int run = 0; run < RUNS; run++) {
            SlotModelTest test = new SlotModelTest(due, PERIODS[run % PERIODS.length]);
            for (int call = 0; call < CALLS; call++) {
                test.call(run);
            }
        }
        due.end();
    }

    private static int below(int bound) {
        seed = seed * 6364136223846793005L + 1442695040888963407L;
        return (int) Long.remainderUnsigned(seed >>> 33, bound);
    }

    private static int oddOr(int plain) {
        return below(25) == 0 ? ODD[below(ODD.length)] : plain;
    }

    private static int time() {
        switch (below(3)) {
            case 0: return oddOr(below(800));
            case 1: return oddOr(SlotModel.LAST - below(800));
            default: return oddOr(below(SlotModel.LAST));
        }
    }

    private void call(int run) {
        int period = periods[below(periods.length)];
        int length = oddOr(1 + below(1 + period / (below(8) == 0 ? 1 : 8)));
        int offset = oddOr(below(period));
        int id = oddOr(below(10));
        int from = time();
        int to = below(3) == 0 ? oddOr(from + below(800)) : time();
        period = oddOr(period);
        String at = "run " + run + ": ";
        switch (below(14)) {
            case 0: case 1: case 2:
                due.due(at + "admit(" + period + ", " + length + ")",
                        program.admit(period, length), model.admit(period, length));
                break;
            case 3: case 4:
                due.due(at + "admitAt(" + period + ", " + length + ", " + offset + ")",
                        program.admitAt(period, length, offset), model.admitAt(period, length, offset));
                break;
            case 5:
                due.due(at + "remove(" + id + ")", program.remove(id), model.remove(id));
                break;
            case 6:
                due.due(at + "offset(" + id + ")", program.offset(id), model.offset(id));
                break;
            case 7: case 8:
                due.due(at + "running(" + from + ")", program.running(from), model.running(from));
                break;
            case 9:
                due.due(at + "free(" + from + ", " + to + ")", program.free(from, to), model.free(from, to));
                break;
            case 10:
                due.due(at + "starts(" + id + ", " + from + ", " + to + ")",
                        program.starts(id, from, to), model.starts(id, from, to));
                break;
            case 11:
                due.due(at + "nextStart(" + from + ")", program.nextStart(from), model.nextStart(from));
                break;
            case 12:
                due.due(at + "room(" + period + ")", program.room(period), model.room(period));
                break;
            default:
                due.due(at + "load()", program.load(), model.load());
        }
    }
}
