import java.util.ArrayList;
import java.util.List;
import java.util.function.Supplier;

/** All that can be asked of an object: two objects that hold the same jobs give equal answers. */
final class Answers {
    private static final int CYCLE = 360;
    private static final int SLOTS = 3 * CYCLE;

    private final Supplier<StrictOffsets> history;
    private final List<Integer> given = new ArrayList<>();

    /** The history makes a new object by the same calls every time, since one object answers 512 calls only. */
    private Answers(Supplier<StrictOffsets> history) {
        this.history = history;
    }

    static List<Integer> of(Supplier<StrictOffsets> history) {
        Answers answers = new Answers(history);
        answers.askJobs();
        for (int first = 0; first < SLOTS; first += CYCLE) {
            answers.askSlots(first);
        }
        answers.fillUp();
        answers.takeOut();
        return answers.given;
    }

    private void askJobs() {
        StrictOffsets object = history.get();
        for (int id = -1; id <= 10; id++) {
            given.add(object.offset(id));
            given.add(object.starts(id, 0, SLOTS));
            given.add(object.starts(id, 0, Boundaries.LAST));
        }
        for (int period : Boundaries.PERIODS) {
            given.add(object.room(period));
        }
        given.add(object.load());
        given.add(object.free(0, Boundaries.LAST));
        given.add(object.nextStart(Boundaries.LAST));
    }

    private void askSlots(int first) {
        StrictOffsets runs = history.get();
        StrictOffsets begins = history.get();
        for (int slot = first; slot < first + CYCLE; slot++) {
            given.add(runs.running(slot));
            given.add(begins.nextStart(slot));
        }
        given.add(runs.free(first, first + CYCLE - 1));
    }

    /** Which ids and slots are still to be had. */
    private void fillUp() {
        StrictOffsets object = history.get();
        for (int job = 0; job <= 10; job++) {
            int id = object.admit(CYCLE, 1);
            given.add(id);
            given.add(object.offset(id));
        }
    }

    private void takeOut() {
        StrictOffsets object = history.get();
        for (int id = -1; id <= 10; id++) {
            given.add(object.remove(id));
        }
        given.add(object.load());
    }
}
