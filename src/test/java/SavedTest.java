import java.util.Arrays;
import java.util.List;

/** Promises 39 and 40: saved states. */
public final class SavedTest {
    private static final Checks CHECKS = new Checks();
    private static final String PROGRAM = "banks 2 rows 3 columns 2; cache 2; budget 1;"
            + "batch 0: load 0 0; add 1 0 0; store 1 1; end; batch 0 1: reduce add 1; end;"
            + "batch 1: set 3 9; load 2 1; load 2 2; end;";

    public static void main(String[] args) {
        everythingComesBack();
        futureIsTheSame();
        slotsAreApart();
        savedInPlace();
        notSaved();
        wrongSlots();
        CHECKS.end();
    }

    private static void due(String name, Object got, Object want) {
        CHECKS.due(name, got, want);
    }

    private static ProcessingMemory used() {
        ProcessingMemory x = Checks.with(PROGRAM);
        x.fill(0, 0, 1, 1);
        x.hostWrite(0, 0, 0, 7);
        x.hostRead(1, 2, 0);
        x.hostWrite(1, 2, 1, 8);
        Checks.runAll(x, 0, 2, 1);
        x.setCoherence(true);
        Checks.submitAll(x, 2, 0);
        return x;
    }

    private static void changeAll(ProcessingMemory x) {
        x.setCoherence(false);
        x.hostRead(0, 2, 0);
        x.hostWrite(0, 1, 0, 99);
        x.hostRead(0, 1, 1);
        x.flushAll();
        x.fill(1, 0, 44, 1);
        Checks.submitAll(x, 1, 1, 0, 2);
        x.run(5);
        for (int i = 0; i < 45; i++) {
            Checks.runAll(x, 1);
        }
    }

    // A view takes some 200 calls and an object promises 512, so that what is due comes from
    // another object, which was used in the same way.
    private static List<Object> usedView() {
        return View.of(used());
    }

    private static void everythingComesBack() {
        ProcessingMemory x = used();
        x.save(0);
        due("39: saving changes nothing", View.of(x), usedView());
        ProcessingMemory y = used();
        y.save(0);
        changeAll(y);
        due("39: changed", View.of(y).equals(usedView()), false);
        ProcessingMemory z = used();
        z.save(0);
        changeAll(z);
        z.restore(0);
        due("40: as before", View.of(z), usedView());
        ProcessingMemory again = used();
        again.save(0);
        for (int i = 0; i < 2; i++) {
            changeAll(again);
            again.restore(0);
        }
        due("40: it stays saved", View.of(again), usedView());
    }

    private static void futureIsTheSame() {
        ProcessingMemory x = used();
        x.save(1);
        changeAll(x);
        x.restore(1);
        changeAll(x);
        ProcessingMemory same = used();
        changeAll(same);
        due("40: the same calls then answer the same", View.of(x), View.of(same));
        ProcessingMemory y = Checks.with(PROGRAM);
        y.hostRead(0, 0, 0);
        y.hostRead(0, 1, 0);
        y.save(0);
        y.hostRead(0, 0, 0);
        y.restore(0);
        y.hostRead(0, 2, 0);
        due("40: which line was used least recently", y.line(0, 0), 0);
        due("40: and which was not", y.line(0, 1), 1);
        ProcessingMemory z = Checks.with(PROGRAM);
        z.save(0);
        Checks.runAll(z, 2);
        z.restore(0);
        Checks.runAll(z, 2);
        // set ..1; activation 1..11, load ..15; the next one waits for it, and then for 51.
        due("40: the activations are forgotten", z.finish(), 65);
    }

    private static ProcessingMemory usedLonger() {
        ProcessingMemory x = used();
        x.run(2);
        return x;
    }

    private static void slotsAreApart() {
        int[][] slots = {{0}, {1}, {1, 0}, {0, 1}, {0, 1, 0}};
        for (int[] restored : slots) {
            ProcessingMemory x = used();
            x.save(0);
            x.run(2);
            x.save(1);
            for (int slot : restored) {
                x.restore(slot);
            }
            boolean isFirst = restored[restored.length - 1] == 0;
            due("40: slots " + Arrays.toString(restored), View.of(x),
                    View.of(isFirst ? used() : usedLonger()));
        }
    }

    private static void savedInPlace() {
        ProcessingMemory x = used();
        x.save(0);
        x.run(2);
        x.save(0);
        changeAll(x);
        x.restore(0);
        due("39: in place of what was saved there", View.of(x), View.of(usedLonger()));
    }

    private static void notSaved() {
        ProcessingMemory x = used();
        x.append(0, 0, 0, 0, 0);
        x.save(0);
        x.append(0, 0, 0, 0, 0);
        x.restore(0);
        due("39: the text buffer stays", x.truncate(40), 40);
        x.truncate(3);
        CHECKS.dueThrow("4: zeros", Checks.ARGUMENT, x::load);
        due("5: code", x.errorCode(), 1);
        x.restore(0);
        due("39: the error stays", x.errorCode(), 1);
        due("39: its position stays", x.errorPosition(), 0);
        x.save(1);
        x.restore(0);
        x.restore(1);
        due("39: the program stays", x.count(3), 3);
    }

    private static void wrongSlots() {
        ProcessingMemory x = used();
        for (int slot : new int[] {-1, 2, Integer.MIN_VALUE, Integer.MAX_VALUE}) {
            CHECKS.dueThrow("39: slot " + slot, Checks.INDEX, () -> x.save(slot));
            CHECKS.dueThrow("40: slot " + slot, Checks.INDEX, () -> x.restore(slot));
        }
        CHECKS.dueThrow("40: slot 0", Checks.ELEMENT, () -> x.restore(0));
        CHECKS.dueThrow("40: slot 1", Checks.ELEMENT, () -> x.restore(1));
        x.save(1);
        CHECKS.dueThrow("40: slot 0 still", Checks.ELEMENT, () -> x.restore(0));
        List<Object> before = View.of(x);
        CHECKS.dueThrow("40: slot 0 still", Checks.ELEMENT, () -> x.restore(0));
        due("40: nothing changed", View.of(x), before);
        ProcessingMemory y = new ProcessingMemory();
        y.save(0);
        y.restore(0);
        due("39: a new object", y.count(0), 1);
    }
}
