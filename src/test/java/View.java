import java.util.ArrayList;
import java.util.List;

/** Everything that can be seen of an object without a change. */
final class View {
    private final ProcessingMemory x;
    private final List<Object> all = new ArrayList<>();

    private View(ProcessingMemory x) {
        this.x = x;
    }

    /** All answers but those about the text and its error, with the runs that can be looked up. */
    static List<Object> of(ProcessingMemory x) {
        View view = new View(x);
        view.addState();
        view.addRuns(Math.max(0, x.count(5) - 40));
        return view.all;
    }

    /** The same with the latest runs alone, which takes fewer calls. */
    static List<Object> withLatestRuns(ProcessingMemory x) {
        View view = new View(x);
        view.addState();
        view.addRuns(Math.max(0, x.count(5) - 2));
        return view.all;
    }

    private void addState() {
        for (int what = 0; what < 7; what++) {
            all.add(x.count(what));
        }
        for (int what = 0; what < 3; what++) {
            all.add(x.cache(what));
        }
        int banks = x.count(0);
        for (int bank = 0; bank < banks; bank++) {
            addBank(bank);
        }
        int queued = x.count(4);
        for (int position = 0; position < queued; position++) {
            all.add(x.queued(position));
        }
        all.add(x.finish());
        all.add(x.wouldFinish(-1));
        boolean coherence = x.setCoherence(false);
        x.setCoherence(coherence);
        all.add(coherence);
    }

    private void addBank(int bank) {
        all.add(x.clock(bank));
        all.add(x.openRow(bank));
        int rows = x.count(1);
        int columns = x.count(2);
        for (int row = 0; row < rows; row++) {
            all.add(x.line(bank, row));
        }
        for (int column = 0; column < columns; column++) {
            for (int row = 0; row < rows; row++) {
                all.add(x.memory(bank, row, column));
            }
            for (int register = 0; register < 4; register++) {
                all.add(x.register(bank, register, column));
                all.add(x.wouldBe(bank, register, column));
            }
        }
        for (int i = 0; i < 4; i++) {
            all.add(x.ready(bank, i));
            all.add(x.stalls(bank, i));
        }
        if (x.finish() > 0) {
            all.add(x.utilization(bank));
        }
    }

    private void addRuns(int first) {
        int runs = x.count(5);
        for (int run = first; run < runs; run++) {
            for (int what = 0; what < 3; what++) {
                all.add(x.runOf(run, what));
            }
        }
    }
}
