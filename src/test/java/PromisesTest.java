/** Each promise of the document by hand: ordinary inputs, the edges that it names, and wrong inputs. */
public final class PromisesTest {
    private static final int LAST = 1000000000;
    private static final int MIN = Integer.MIN_VALUE;
    private static final int MAX = Integer.MAX_VALUE;

    private static final Due DUE = new Due("PromisesTest");

    public static void main(String[] args) {
        promise1NewObject();
        promise2Admit();
        promise2AdmitOrder();
        promise3AdmitAt();
        promise3AdmitAtOrder();
        promise4Remove();
        promise5Offset();
        promise6Running();
        promise7Free();
        promise8Starts();
        promise9NextStart();
        promise10Room();
        promise11Load();
        promise12Order();
        DUE.end();
    }

    private static void due(String call, long got, long want) {
        DUE.due(call, got, want);
    }

    private static StrictOffsets tenJobs() {
        StrictOffsets x = new StrictOffsets();
        for (int id = 0; id < 10; id++) {
            due("ten jobs: admit(20, 1)", x.admit(20, 1), id);
        }
        return x;
    }

    private static void promise1NewObject() {
        StrictOffsets x = new StrictOffsets();
        due("1: load()", x.load(), 0);
        due("1: nextStart(0)", x.nextStart(0), StrictOffsets.NO_JOB);
        due("1: running(0)", x.running(0), StrictOffsets.NO_JOB);
        due("1: free(0, LAST)", x.free(0, LAST), LAST + 1);
        for (int id = 0; id < 10; id++) {
            due("1: offset(" + id + ")", x.offset(id), StrictOffsets.NO_JOB);
            due("1: remove(" + id + ")", x.remove(id), StrictOffsets.NO_JOB);
        }
        StrictOffsets y = new StrictOffsets();
        due("1: admit on one object", y.admit(2, 2), 0);
        due("1: is not seen on another", x.load(), 0);
    }

    private static void promise2Admit() {
        StrictOffsets x = new StrictOffsets();
        due("2: admit(6, 2)", x.admit(6, 2), 0);
        due("2: admit(4, 1)", x.admit(4, 1), StrictOffsets.NO_ROOM);
        due("2: admit(12, 3)", x.admit(12, 3), 1);
        due("2: its offset", x.offset(1), 2);
        due("2: admit(12, 4), the whole last gap", x.admit(12, 4), 2);
        due("2: its offset", x.offset(2), 8);
        due("2: admit(360, 1), in the slot left over", x.admit(360, 1), 3);
        due("2: its offset", x.offset(3), 5);

        StrictOffsets wraps = new StrictOffsets();
        due("2: admitAt(10, 4, 3)", wraps.admitAt(10, 4, 3), 0);
        due("2: admit(10, 6), which wraps", wraps.admit(10, 6), 1);
        due("2: its offset", wraps.offset(1), 7);
        due("2: admit(360, 1) with every slot taken", wraps.admit(360, 1), StrictOffsets.NO_ROOM);

        // The first run of the wrapping job leaves slots 0 and 1 free, but its later runs don't.
        StrictOffsets late = new StrictOffsets();
        due("2: admitAt(10, 5, 7)", late.admitAt(10, 5, 7), 0);
        due("2: running(0)", late.running(0), StrictOffsets.NO_JOB);
        due("2: admit(360, 1)", late.admit(360, 1), 1);
        due("2: its offset", late.offset(1), 2);

        StrictOffsets prime = new StrictOffsets();
        due("2: admit(8, 1)", prime.admit(8, 1), 0);
        due("2: admit(9, 1), with coprime periods", prime.admit(9, 1), StrictOffsets.NO_ROOM);

        StrictOffsets whole = new StrictOffsets();
        due("2: admit(360, 360)", whole.admit(360, 360), 0);
        due("2: admit(360, 1)", whole.admit(360, 1), StrictOffsets.NO_ROOM);
        due("2: the refused call changed nothing", whole.offset(1), StrictOffsets.NO_JOB);
    }

    private static void promise2AdmitOrder() {
        for (int p = -361; p <= 721; p++) {
            due("2: admit(" + p + ", 1)", new StrictOffsets().admit(p, 1), Boundaries.isPeriod(p) ? 0 : StrictOffsets.BAD_PERIOD);
            due("3: admitAt(" + p + ", 1, 0)", new StrictOffsets().admitAt(p, 1, 0), Boundaries.isPeriod(p) ? 0 : StrictOffsets.BAD_PERIOD);
            due("10: room(" + p + ")", new StrictOffsets().room(p), Boundaries.isPeriod(p) ? p : StrictOffsets.BAD_PERIOD);
        }
        StrictOffsets x = new StrictOffsets();
        due("2: admit(MIN, 1)", x.admit(MIN, 1), StrictOffsets.BAD_PERIOD);
        due("2: admit(MAX, 1)", x.admit(MAX, 1), StrictOffsets.BAD_PERIOD);
        due("2: admit(7, 0), the period first", x.admit(7, 0), StrictOffsets.BAD_PERIOD);
        due("2: admit(8, 0)", x.admit(8, 0), StrictOffsets.BAD_LENGTH);
        due("2: admit(8, -1)", x.admit(8, -1), StrictOffsets.BAD_LENGTH);
        due("2: admit(8, 9)", x.admit(8, 9), StrictOffsets.BAD_LENGTH);
        due("2: admit(8, MIN)", x.admit(8, MIN), StrictOffsets.BAD_LENGTH);
        due("2: admit(8, MAX)", x.admit(8, MAX), StrictOffsets.BAD_LENGTH);
        due("2: nothing changed", x.load(), 0);
        due("2: admit(8, 8)", x.admit(8, 8), 0);
        due("2: admit(8, 9), the length before room", x.admit(8, 9), StrictOffsets.BAD_LENGTH);

        StrictOffsets full = tenJobs();
        due("2: full: admit(1, 1)", full.admit(1, 1), StrictOffsets.BAD_PERIOD);
        due("2: full: admit(20, 21)", full.admit(20, 21), StrictOffsets.BAD_LENGTH);
        due("2: full: admit(20, 20), full before room", full.admit(20, 20), StrictOffsets.FULL);
        due("2: full: admit(20, 1), with room", full.admit(20, 1), StrictOffsets.FULL);
        due("2: full: nothing changed", full.load(), 180);
        due("2: full: remove(3)", full.remove(3), 9);
        due("2: full: remove(7)", full.remove(7), 8);
        due("2: full: the smallest id", full.admit(360, 1), 3);
        due("2: full: the smallest offset", full.offset(3), 3);
        due("2: full: the next id", full.admit(20, 2), 7);
        due("2: full: the next offset", full.offset(7), 10);
        due("2: full again", full.admit(20, 1), StrictOffsets.FULL);
    }

    private static void promise3AdmitAt() {
        StrictOffsets x = new StrictOffsets();
        due("3: admitAt(10, 3, 9), which wraps", x.admitAt(10, 3, 9), 0);
        due("3: its offset", x.offset(0), 9);
        due("3: admitAt(10, 1, 0)", x.admitAt(10, 1, 0), StrictOffsets.NO_ROOM);
        due("3: admitAt(10, 1, 1)", x.admitAt(10, 1, 1), StrictOffsets.NO_ROOM);
        due("3: admitAt(10, 8, 2), one too long", x.admitAt(10, 8, 2), StrictOffsets.NO_ROOM);
        due("3: admitAt(360, 1, 1), it meets later runs only", x.admitAt(360, 1, 1), StrictOffsets.NO_ROOM);
        due("3: admitAt(360, 8, 352), it meets a run's beginning", x.admitAt(360, 8, 352), StrictOffsets.NO_ROOM);
        due("3: the refused calls changed nothing", x.load(), 108);
        due("3: admitAt(360, 7, 352)", x.admitAt(360, 7, 352), 1);
        due("3: its offset", x.offset(1), 352);
        due("3: admitAt(10, 2, 4) meets it", x.admitAt(10, 2, 4), StrictOffsets.NO_ROOM);
        due("3: remove(0)", x.remove(0), 1);
        due("3: admitAt(10, 2, 0) gets the smallest id", x.admitAt(10, 2, 0), 0);
    }

    private static void promise3AdmitAtOrder() {
        StrictOffsets x = new StrictOffsets();
        due("3: admitAt(0, 0, -1)", x.admitAt(0, 0, -1), StrictOffsets.BAD_PERIOD);
        due("3: admitAt(MIN, 1, 0)", x.admitAt(MIN, 1, 0), StrictOffsets.BAD_PERIOD);
        due("3: admitAt(5, 0, -1)", x.admitAt(5, 0, -1), StrictOffsets.BAD_LENGTH);
        due("3: admitAt(5, 6, 5)", x.admitAt(5, 6, 5), StrictOffsets.BAD_LENGTH);
        due("3: admitAt(5, 1, -1)", x.admitAt(5, 1, -1), StrictOffsets.BAD_OFFSET);
        due("3: admitAt(5, 1, 5)", x.admitAt(5, 1, 5), StrictOffsets.BAD_OFFSET);
        due("3: admitAt(5, 1, MIN)", x.admitAt(5, 1, MIN), StrictOffsets.BAD_OFFSET);
        due("3: admitAt(5, 1, MAX)", x.admitAt(5, 1, MAX), StrictOffsets.BAD_OFFSET);
        due("3: nothing changed", x.load(), 0);
        due("3: admitAt(5, 5, 4)", x.admitAt(5, 5, 4), 0);
        due("3: admitAt(5, 5, 5), the offset before room", x.admitAt(5, 5, 5), StrictOffsets.BAD_OFFSET);

        StrictOffsets full = tenJobs();
        due("3: full: admitAt(20, 1, 20)", full.admitAt(20, 1, 20), StrictOffsets.BAD_OFFSET);
        due("3: full: admitAt(20, 1, 0), full before room", full.admitAt(20, 1, 0), StrictOffsets.FULL);
        due("3: full: admitAt(20, 1, 19), with room", full.admitAt(20, 1, 19), StrictOffsets.FULL);
        due("3: full: nothing changed", full.load(), 180);
    }

    private static void promise4Remove() {
        StrictOffsets x = tenJobs();
        due("4: remove(-1)", x.remove(-1), StrictOffsets.NO_JOB);
        due("4: remove(10)", x.remove(10), StrictOffsets.NO_JOB);
        due("4: remove(MIN)", x.remove(MIN), StrictOffsets.NO_JOB);
        due("4: remove(MAX)", x.remove(MAX), StrictOffsets.NO_JOB);
        due("4: nothing changed", x.load(), 180);
        due("4: remove(4)", x.remove(4), 9);
        due("4: remove(4) again", x.remove(4), StrictOffsets.NO_JOB);
        due("4: load()", x.load(), 162);
        due("4: running(4)", x.running(4), StrictOffsets.NO_JOB);
        due("4: running(5), the others keep their ids", x.running(5), 5);
        due("4: free(0, 19)", x.free(0, 19), 11);
        due("4: starts(4, 0, 100)", x.starts(4, 0, 100), StrictOffsets.NO_JOB);
        due("4: nextStart(4)", x.nextStart(4), 5);
        due("4: admitAt(20, 1, 4), its slot is free again", x.admitAt(20, 1, 4), 4);
        for (int id = 9; id >= 0; id--) {
            due("4: remove(" + id + ")", x.remove(id), id);
        }
        due("4: room(360) at the end", x.room(360), 360);
    }

    private static void promise5Offset() {
        StrictOffsets x = new StrictOffsets();
        due("5: admitAt(360, 1, 359)", x.admitAt(360, 1, 359), 0);
        due("5: admit(360, 2)", x.admit(360, 2), 1);
        due("5: offset(0)", x.offset(0), 359);
        due("5: offset(1)", x.offset(1), 0);
        due("5: offset(2)", x.offset(2), StrictOffsets.NO_JOB);
        due("5: offset(-1)", x.offset(-1), StrictOffsets.NO_JOB);
        due("5: offset(10)", x.offset(10), StrictOffsets.NO_JOB);
        due("5: offset(MIN)", x.offset(MIN), StrictOffsets.NO_JOB);
        due("5: offset(MAX)", x.offset(MAX), StrictOffsets.NO_JOB);
        due("5: remove(1)", x.remove(1), 1);
        due("5: offset(1)", x.offset(1), StrictOffsets.NO_JOB);
    }

    private static void promise6Running() {
        StrictOffsets x = new StrictOffsets();
        due("6: admitAt(10, 4, 8), which wraps", x.admitAt(10, 4, 8), 0);
        due("6: admitAt(20, 3, 15)", x.admitAt(20, 3, 15), 1);
        int[] want = {-6, -6, -6, -6, -6, -6, -6, -6, 0, 0, 0, 0, -6, -6, -6, 1, 1, 1, 0, 0, 0, 0, -6};
        for (int time = 0; time < want.length; time++) {
            due("6: running(" + time + ")", x.running(time), want[time]);
        }
        due("6: running(LAST)", x.running(LAST), 0);
        due("6: running(LAST - 5)", x.running(LAST - 5), 1);
        due("6: running(LAST - 6)", x.running(LAST - 6), StrictOffsets.NO_JOB);
        due("6: running(LAST + 1)", x.running(LAST + 1), StrictOffsets.BAD_TIME);
        due("6: running(-1)", x.running(-1), StrictOffsets.BAD_TIME);
        due("6: running(MIN)", x.running(MIN), StrictOffsets.BAD_TIME);
        due("6: running(MAX)", x.running(MAX), StrictOffsets.BAD_TIME);
        due("6: running(-1) with no jobs", new StrictOffsets().running(-1), StrictOffsets.BAD_TIME);
    }

    private static void promise7Free() {
        StrictOffsets x = new StrictOffsets();
        due("7: admitAt(10, 4, 8), which wraps", x.admitAt(10, 4, 8), 0);
        due("7: free(0, 0)", x.free(0, 0), 1);
        due("7: free(0, 7)", x.free(0, 7), 8);
        due("7: free(0, 8)", x.free(0, 8), 8);
        due("7: free(0, 12)", x.free(0, 12), 9);
        due("7: free(8, 8)", x.free(8, 8), 0);
        due("7: free(9, 12)", x.free(9, 12), 1);
        due("7: free(10, 19)", x.free(10, 19), 6);
        due("7: free(1, 0)", x.free(1, 0), 0);
        due("7: free(LAST, 0)", x.free(LAST, 0), 0);
        due("7: free(LAST, LAST)", x.free(LAST, LAST), 0);
        due("7: free(0, LAST)", x.free(0, LAST), 600000002);
        due("7: admit(10, 6)", x.admit(10, 6), 1);
        due("7: free(0, LAST), two slots before the first wrap", x.free(0, LAST), 2);
        due("7: free(-1, 5)", x.free(-1, 5), StrictOffsets.BAD_TIME);
        due("7: free(0, LAST + 1)", x.free(0, LAST + 1), StrictOffsets.BAD_TIME);
        due("7: free(MIN, MAX)", x.free(MIN, MAX), StrictOffsets.BAD_TIME);
        due("7: free(0, -1)", x.free(0, -1), StrictOffsets.BAD_TIME);
        due("7: free(LAST + 1, 0)", x.free(LAST + 1, 0), StrictOffsets.BAD_TIME);
    }

    private static void promise8Starts() {
        StrictOffsets x = new StrictOffsets();
        due("8: admitAt(10, 4, 8), which wraps", x.admitAt(10, 4, 8), 0);
        due("8: admitAt(2, 1, 0)", x.admitAt(2, 1, 0), StrictOffsets.NO_ROOM);
        due("8: starts(0, 0, 7)", x.starts(0, 0, 7), 0);
        due("8: starts(0, 0, 8)", x.starts(0, 0, 8), 1);
        due("8: starts(0, 8, 8)", x.starts(0, 8, 8), 1);
        due("8: starts(0, 9, 17)", x.starts(0, 9, 17), 0);
        due("8: starts(0, 9, 18)", x.starts(0, 9, 18), 1);
        due("8: starts(0, 8, 18)", x.starts(0, 8, 18), 2);
        due("8: starts(0, 18, 8)", x.starts(0, 18, 8), 0);
        due("8: starts(0, LAST, 0)", x.starts(0, LAST, 0), 0);
        due("8: starts(0, 0, LAST)", x.starts(0, 0, LAST), 100000000);
        due("8: starts(0, LAST - 2, LAST)", x.starts(0, LAST - 2, LAST), 1);
        due("8: starts(0, -1, 8)", x.starts(0, -1, 8), StrictOffsets.BAD_TIME);
        due("8: starts(0, 0, LAST + 1)", x.starts(0, 0, LAST + 1), StrictOffsets.BAD_TIME);
        due("8: starts(0, MAX, MIN)", x.starts(0, MAX, MIN), StrictOffsets.BAD_TIME);
        due("8: starts(1, 0, 8)", x.starts(1, 0, 8), StrictOffsets.NO_JOB);
        due("8: starts(-1, 0, 8)", x.starts(-1, 0, 8), StrictOffsets.NO_JOB);
        due("8: starts(10, 0, 8)", x.starts(10, 0, 8), StrictOffsets.NO_JOB);
        due("8: starts(MIN, 0, 8)", x.starts(MIN, 0, 8), StrictOffsets.NO_JOB);
        due("8: starts(MAX, 0, 8)", x.starts(MAX, 0, 8), StrictOffsets.NO_JOB);

        StrictOffsets even = new StrictOffsets();
        due("8: admit(2, 1)", even.admit(2, 1), 0);
        due("8: starts(0, 0, 0)", even.starts(0, 0, 0), 1);
        due("8: starts(0, 0, LAST)", even.starts(0, 0, LAST), 500000001);
    }

    private static void promise9NextStart() {
        StrictOffsets x = new StrictOffsets();
        due("9: nextStart(-1) with no jobs", x.nextStart(-1), StrictOffsets.BAD_TIME);
        due("9: nextStart(LAST + 1) with no jobs", x.nextStart(LAST + 1), StrictOffsets.BAD_TIME);
        due("9: nextStart(LAST) with no jobs", x.nextStart(LAST), StrictOffsets.NO_JOB);
        due("9: admitAt(360, 5, 279)", x.admitAt(360, 5, 279), 0);
        due("9: nextStart(0)", x.nextStart(0), 279);
        due("9: nextStart(279)", x.nextStart(279), 279);
        due("9: nextStart(280), inside a run", x.nextStart(280), 639);
        due("9: nextStart(LAST), above LAST", x.nextStart(LAST), 1000000359);
        due("9: nextStart(MIN)", x.nextStart(MIN), StrictOffsets.BAD_TIME);
        due("9: nextStart(MAX)", x.nextStart(MAX), StrictOffsets.BAD_TIME);
        due("9: admitAt(90, 2, 30)", x.admitAt(90, 2, 30), 1);
        due("9: nextStart(0), of the later id", x.nextStart(0), 30);
        due("9: nextStart(31)", x.nextStart(31), 120);
        due("9: nextStart(211), of the first id", x.nextStart(211), 279);
        due("9: nextStart(280)", x.nextStart(280), 300);
        due("9: remove(0)", x.remove(0), 1);
        due("9: nextStart(211)", x.nextStart(211), 300);
        due("9: remove(1)", x.remove(1), 0);
        due("9: nextStart(211)", x.nextStart(211), StrictOffsets.NO_JOB);
    }

    private static void promise10Room() {
        StrictOffsets x = new StrictOffsets();
        due("10: room(MIN)", x.room(MIN), StrictOffsets.BAD_PERIOD);
        due("10: room(MAX)", x.room(MAX), StrictOffsets.BAD_PERIOD);
        due("10: admitAt(12, 2, 5)", x.admitAt(12, 2, 5), 0);
        due("10: room(12), around the wrap", x.room(12), 10);
        due("10: room(360)", x.room(360), 10);
        due("10: room(4)", x.room(4), 2);
        due("10: room(2)", x.room(2), 0);
        due("10: room(5)", x.room(5), 0);
        due("10: room(18)", x.room(18), 4);
        due("10: room changed nothing", x.load(), 60);

        StrictOffsets first = new StrictOffsets();
        due("10: admitAt(12, 2, 10)", first.admitAt(12, 2, 10), 0);
        due("10: room(12), best at offset 0 alone", first.room(12), 10);

        StrictOffsets full = tenJobs();
        due("10: room(20) with ten jobs", full.room(20), 10);
        due("10: room(7) with ten jobs", full.room(7), StrictOffsets.BAD_PERIOD);

        StrictOffsets whole = new StrictOffsets();
        due("10: admit(3, 3)", whole.admit(3, 3), 0);
        due("10: room(3)", whole.room(3), 0);
        due("10: room(360)", whole.room(360), 0);
    }

    private static void promise11Load() {
        StrictOffsets x = new StrictOffsets();
        due("11: load()", x.load(), 0);
        due("11: admitAt(360, 7, 359), which wraps", x.admitAt(360, 7, 359), 0);
        due("11: load()", x.load(), 7);
        due("11: admit(20, 3)", x.admit(20, 3), 1);
        due("11: load()", x.load(), 61);
        due("11: remove(0)", x.remove(0), 1);
        due("11: load()", x.load(), 54);
        StrictOffsets whole = new StrictOffsets();
        due("11: admit(2, 2)", whole.admit(2, 2), 0);
        due("11: load()", whole.load(), 360);
    }

    private static void promise12Order() {
        StrictOffsets x = new StrictOffsets();
        due("12: admit(2, 1)", x.admit(2, 1), 0);
        due("12: free(5, -1)", x.free(5, -1), StrictOffsets.BAD_TIME);
        due("12: free(LAST + 1, 5)", x.free(LAST + 1, 5), StrictOffsets.BAD_TIME);
        due("12: free(5, 4)", x.free(5, 4), 0);
        due("12: starts(1, -1, 5)", x.starts(1, -1, 5), StrictOffsets.NO_JOB);
        due("12: starts(1, 5, 4)", x.starts(1, 5, 4), StrictOffsets.NO_JOB);
        due("12: starts(0, 5, -1)", x.starts(0, 5, -1), StrictOffsets.BAD_TIME);
        due("12: starts(0, LAST + 1, 5)", x.starts(0, LAST + 1, 5), StrictOffsets.BAD_TIME);
        due("12: starts(0, 50, 4)", x.starts(0, 50, 4), 0);
    }
}
