import java.util.ArrayList;
import java.util.List;

/**
 * Every argument of every call that has a range: the first and the last value that are taken, and
 * the values next to them and the extreme ones, which are refused. If several exceptions apply, the
 * one that is named first in the throws clause is thrown.
 */
public final class ArgumentTest {
    private static final Checks CHECKS = new Checks();
    private static final String COMMANDS = "0: set 0 1; end;";

    interface Face {
        void call(ProcessingMemory x, int[] arguments);
    }

    interface Making {
        ProcessingMemory make();
    }

    /** A range of an argument and what is thrown beyond it. */
    private record Range(int first, int last, Class<?> exception) {}

    public static void main(String[] args) {
        sizes("a new object", ProcessingMemory::new, 1, 1, 1);
        for (int[] s : new int[][] {{1, 1, 1}, {8, 16, 8}, {3, 5, 7}, {1, 16, 1}, {8, 1, 1}}) {
            String text = "banks " + s[0] + " rows " + s[1] + " columns " + s[2] + ";";
            sizes(text, () -> Checks.with(text), s[0], s[1], s[2]);
            sizes(text + " before", () -> loadedBehind(text), s[0], s[1], s[2]);
        }
        for (int number : new int[] {0, 1, 2, 11, 12}) {
            batches(number);
        }
        for (int length : new int[] {0, 1, 6, 7, 15, 16}) {
            queue(length);
        }
        for (int number : new int[] {0, 1, 39, 40, 41, 80, 81}) {
            runs(number);
        }
        for (int length : new int[] {0, 20, 880, 900}) {
            texts(length);
        }
        others();
        CHECKS.end();
    }

    /** An object that had a program of another size, and an erroneous text, before. */
    private static ProcessingMemory loadedBehind(String text) {
        ProcessingMemory x = Checks.with("banks 8 rows 16 columns 8;" + ("batch 7 6 5 "
                + COMMANDS).repeat(12));
        Checks.submitAll(x, 11, 10, 9);
        x.run(2);
        Checks.type(x, text);
        x.load();
        Checks.type(x, "banks 4 rows 4 columns 4; batch 3 " + COMMANDS + "?");
        CHECKS.dueThrow("4: error", Checks.ARGUMENT, x::load);
        return x;
    }

    private static Range below(int size) {
        return new Range(0, size - 1, Checks.INDEX);
    }

    private static Range kinds(int size) {
        return new Range(0, size - 1, Checks.ARGUMENT);
    }

    private static List<Integer> taken(Range range) {
        List<Integer> values = new ArrayList<>();
        if (range.first <= range.last) {
            values.add(range.first);
            values.add(range.last);
        }
        return values;
    }

    private static List<Integer> refused(Range range) {
        List<Integer> values = new ArrayList<>(List.of(range.first - 1, range.last + 1,
                range.last + 2, Integer.MIN_VALUE, Integer.MAX_VALUE));
        if (range.first > range.last) {
            values.add(range.first);
        }
        return values;
    }

    /** Tries all combinations of taken and refused values, each on an object of its own. */
    private static void ranges(String name, Making making, Face face, Range... ranges) {
        combine(name, making, face, ranges, new int[ranges.length], 0, null);
    }

    private static void combine(String name, Making making, Face face, Range[] ranges,
            int[] arguments, int place, Class<?> exception) {
        if (place == ranges.length) {
            dueCall(name, making, face, arguments.clone(), exception);
            return;
        }
        for (int value : taken(ranges[place])) {
            arguments[place] = value;
            combine(name, making, face, ranges, arguments, place + 1, exception);
        }
        // In all throws clauses the order of the exceptions is that of the arguments.
        Class<?> first = exception != null ? exception : ranges[place].exception;
        for (int value : refused(ranges[place])) {
            arguments[place] = value;
            combine(name, making, face, ranges, arguments, place + 1, first);
        }
    }

    private static void dueCall(
            String name, Making making, Face face, int[] arguments, Class<?> exception) {
        ProcessingMemory x = making.make();
        String call = name + java.util.Arrays.toString(arguments);
        if (exception != null) {
            CHECKS.dueThrow(call, exception, () -> face.call(x, arguments));
            return;
        }
        try {
            face.call(x, arguments);
            CHECKS.due(call, "taken", "taken");
        } catch (RuntimeException e) {
            CHECKS.due(call, e.getClass(), "taken");
        }
    }

    private static void sizes(String object, Making making, int banks, int rows, int columns) {
        Range bank = below(banks);
        Range row = below(rows);
        Range column = below(columns);
        Range register = below(4);
        String of = " of " + object + " ";
        ranges("10: memory" + of, making, (x, a) -> x.memory(a[0], a[1], a[2]), bank, row, column);
        ranges("11: fill" + of, making, (x, a) -> x.fill(a[0], a[1], 1, 2), bank, row);
        ranges("12: register" + of, making, (x, a) -> x.register(a[0], a[1], a[2]), bank, register,
                column);
        ranges("13: hostRead" + of, making, (x, a) -> x.hostRead(a[0], a[1], a[2]), bank, row,
                column);
        ranges("14: hostWrite" + of, making, (x, a) -> x.hostWrite(a[0], a[1], a[2], 1), bank, row,
                column);
        ranges("15: flush" + of, making, (x, a) -> x.flush(a[0], a[1]), bank, row);
        ranges("17: invalidate" + of, making, (x, a) -> x.invalidate(a[0], a[1]), bank, row);
        ranges("18: line" + of, making, (x, a) -> x.line(a[0], a[1]), bank, row);
        ranges("25: clock" + of, making, (x, a) -> x.clock(a[0]), bank);
        ranges("26: ready" + of, making, (x, a) -> x.ready(a[0], a[1]), bank, register);
        ranges("27: openRow" + of, making, (x, a) -> x.openRow(a[0]), bank);
        ranges("28: stalls" + of, making, (x, a) -> x.stalls(a[0], a[1]), bank, kinds(4));
        ranges("32: wouldBe" + of, making, (x, a) -> x.wouldBe(a[0], a[1], a[2]), bank, register,
                column);
        utilization(object, banks);
    }

    private static void utilization(String object, int banks) {
        Making making = () -> {
            ProcessingMemory x = Checks.with("banks " + banks + " rows 1 columns 1; batch "
                    + COMMANDS);
            Checks.runAll(x, 0);
            return x;
        };
        ranges("30: utilization of " + object, making, (x, a) -> x.utilization(a[0]),
                below(banks));
        for (int bank = 0; bank < banks; bank++) {
            int taken = bank;
            ProcessingMemory x = Checks.with("banks " + banks + " rows 1 columns 1;");
            CHECKS.dueThrow("30: finish 0", Checks.STATE, () -> x.utilization(taken));
            CHECKS.dueThrow("30: finish 0", Checks.INDEX, () -> x.utilization(banks));
            CHECKS.dueThrow("30: finish 0", Checks.INDEX, () -> x.utilization(-1));
        }
    }

    private static void batches(int number) {
        String text = "banks 1 rows 1 columns 1;" + ("batch " + COMMANDS).repeat(number);
        Making making = () -> Checks.with(text);
        Range batch = below(number);
        String of = " of " + number + " batches ";
        ranges("8: commands" + of, making, (x, a) -> x.commands(a[0]), batch);
        ranges("9: banks" + of, making, (x, a) -> x.banks(a[0]), batch);
        ranges("21: submit" + of, making, (x, a) -> x.submit(a[0]), batch);
        ranges("33: isConflict" + of, making, (x, a) -> x.isConflict(a[0], a[1]), batch, batch);
        ranges("31: wouldFinish" + of, making, (x, a) -> x.wouldFinish(a[0]),
                new Range(ProcessingMemory.NONE, number - 1, Checks.INDEX));
        ranges("8: commands, shrunk," + of, () -> loadedBehind(text), (x, a) -> x.commands(a[0]),
                batch);
        ranges("21: submit, shrunk," + of, () -> loadedBehind(text), (x, a) -> x.submit(a[0]),
                batch);
    }

    private static ProcessingMemory queuing(int length) {
        ProcessingMemory x = Checks.with("banks 1 rows 1 columns 1; batch " + COMMANDS);
        for (int i = 0; i < length; i++) {
            CHECKS.due("21: submit", x.submit(0), i + 1);
        }
        return x;
    }

    private static void queue(int length) {
        Making making = () -> queuing(length);
        String of = " of a queue of " + length + " ";
        ranges("22: queued" + of, making, (x, a) -> x.queued(a[0]), below(length));
        ranges("23: run" + of, making, (x, a) -> x.run(a[0]), new Range(1, 16, Checks.ARGUMENT));
        for (int wrong : new int[] {-1, length, Integer.MIN_VALUE, Integer.MAX_VALUE}) {
            // bestOrder() names IllegalStateException first.
            CHECKS.dueThrow("36: bestOrder" + of, length > 6 ? Checks.STATE : Checks.INDEX,
                    () -> making.make().bestOrder(wrong));
        }
        for (int index = 0; index < length; index++) {
            int right = index;
            String name = "36: bestOrder " + index + of;
            if (length > 6) {
                CHECKS.dueThrow(name, Checks.STATE, () -> making.make().bestOrder(right));
            } else {
                CHECKS.due(name, making.make().bestOrder(index), index);
            }
        }
        for (int wrong : new int[] {-1, 1, Integer.MIN_VALUE, Integer.MAX_VALUE}) {
            // submit() names IndexOutOfBoundsException first.
            CHECKS.dueThrow("21: submit" + of, Checks.INDEX, () -> making.make().submit(wrong));
        }
        if (length == 16) {
            CHECKS.dueThrow("21: submit" + of, Checks.STATE, () -> making.make().submit(0));
        }
    }

    private static void runs(int number) {
        Making making = () -> {
            ProcessingMemory x = queuing(0);
            for (int i = 0; i < number; i++) {
                Checks.runAll(x, 0);
            }
            return x;
        };
        Range run = new Range(Math.max(0, number - 40), number - 1, Checks.INDEX);
        ranges("24: runOf of " + number + " ", making, (x, a) -> x.runOf(a[0], a[1]), run,
                kinds(3));
        CHECKS.due("7: runs", making.make().count(5), number);
    }

    private static void texts(int length) {
        Making making = () -> {
            ProcessingMemory x = new ProcessingMemory();
            for (int i = 0; i < length; i += 20) {
                x.append(0, 0, 0, 0, 0);
            }
            return x;
        };
        ranges("3: truncate of " + length + " ", making, (x, a) -> x.truncate(a[0]),
                new Range(0, length, Checks.INDEX));
    }

    private static void others() {
        Making making = ProcessingMemory::new;
        ranges("7: count", making, (x, a) -> x.count(a[0]), kinds(7));
        ranges("19: cache", making, (x, a) -> x.cache(a[0]), kinds(3));
        ranges("39: save", making, (x, a) -> x.save(a[0]), below(2));
        Making saved = () -> {
            ProcessingMemory x = new ProcessingMemory();
            x.save(0);
            x.save(1);
            return x;
        };
        ranges("40: restore", saved, (x, a) -> x.restore(a[0]), below(2));
        for (int slot : new int[] {-1, 2, Integer.MIN_VALUE, Integer.MAX_VALUE}) {
            CHECKS.dueThrow("40: the first exception", Checks.INDEX,
                    () -> new ProcessingMemory().restore(slot));
        }
    }
}
