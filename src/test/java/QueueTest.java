/** Promises 21 to 24: the queue and the runs. */
public final class QueueTest {
    private static final Checks CHECKS = new Checks();
    // Batch 0 takes bank 0 four ticks, batch 1 is empty, batch 2 multiplies in both banks.
    private static final String PROGRAM = "banks 2 rows 1 columns 1;"
            + "batch 0: set 0 1; set 1 1; set 2 1; set 3 1; end; batch 1: end;"
            + "batch 0 1: mul 0 0 0; end;";

    public static void main(String[] args) {
        submission();
        fullQueue();
        order();
        numbers();
        reports();
        latestForty();
        wrongArguments();
        CHECKS.end();
    }

    private static void due(String name, Object got, Object want) {
        CHECKS.due(name, got, want);
    }

    private static void submission() {
        ProcessingMemory x = Checks.with(PROGRAM);
        due("21: first", x.submit(2), 1);
        due("21: second", x.submit(0), 2);
        due("21: the same again", x.submit(2), 3);
        due("22: first", x.queued(0), 2);
        due("22: second", x.queued(1), 0);
        due("22: third", x.queued(2), 2);
        due("21: nothing is run", x.finish(), 0);
        for (int position : new int[] {-1, 3, Integer.MIN_VALUE, Integer.MAX_VALUE}) {
            CHECKS.dueThrow("22", Checks.INDEX, () -> x.queued(position));
        }
    }

    private static void fullQueue() {
        ProcessingMemory x = Checks.with(PROGRAM);
        for (int i = 1; i <= 16; i++) {
            due("21: length", x.submit(i % 3), i);
        }
        CHECKS.dueThrow("21: full", Checks.STATE, () -> x.submit(0));
        CHECKS.dueThrow("21: the first exception", Checks.INDEX, () -> x.submit(3));
        CHECKS.dueThrow("21: the first exception", Checks.INDEX, () -> x.submit(-1));
        due("7: sixteen", x.count(4), 16);
        due("22: last", x.queued(15), 1);
        due("23: one", x.run(1), 1);
        due("21: room again", x.submit(2), 16);
        due("22: behind the others", x.queued(15), 2);
        due("22: moved up", x.queued(0), 2);
        due("23: all", x.run(16), 16);
        due("7: empty", x.count(4), 0);
        due("7: runs", x.count(5), 17);
    }

    private static void order() {
        ProcessingMemory x = Checks.with("banks 1 rows 1 columns 1;"
                + "batch 0: set 0 3; end; batch 0: set 1 2; mul 0 0 1; end; batch 0: add 0 0 1; end;");
        Checks.submitAll(x, 0, 1, 2, 1);
        due("23: two", x.run(2), 2);
        due("23: values", x.register(0, 0, 0), 6);
        due("22: the rest", x.queued(0), 2);
        due("22: the rest", x.queued(1), 1);
        due("23: the rest", x.run(2), 2);
        due("23: in their order", x.register(0, 0, 0), 16);
    }

    private static void numbers() {
        ProcessingMemory x = Checks.with(PROGRAM);
        due("23: empty queue", x.run(1), 0);
        due("23: empty queue", x.run(16), 0);
        Checks.submitAll(x, 0, 1);
        due("23: fewer than the number", x.run(16), 2);
        due("7: runs", x.count(5), 2);
    }

    private static void reports() {
        ProcessingMemory x = Checks.with(PROGRAM);
        Checks.runAll(x, 0, 2, 1, 2);
        // Bank 0: clock 4 and ready times 1 to 4, then mul begins at 4; bank 1: mul at 0.
        int[][] want = {{0, 0, 4}, {2, 0, 9}, {1, 1, 5}, {2, 1, 14}};
        for (int run = 0; run < want.length; run++) {
            for (int what = 0; what < 3; what++) {
                due("24: run " + run + ", " + what, x.runOf(run, what), want[run][what]);
            }
        }
    }

    private static void latestForty() {
        ProcessingMemory x = Checks.with("banks 1 rows 1 columns 1;"
                + "batch 0: set 0 1; end; batch 0: end;");
        for (int i = 0; i < 40; i++) {
            Checks.runAll(x, i % 2);
        }
        due("24: the first of 40", x.runOf(0, 0), 0);
        due("24: its end", x.runOf(0, 2), 1);
        due("24: the last of 40", x.runOf(39, 0), 1);
        CHECKS.dueThrow("24: not yet", Checks.INDEX, () -> x.runOf(40, 0));
        Checks.runAll(x, 0, 0, 1);
        for (int run = 0; run < 3; run++) {
            int old = run;
            CHECKS.dueThrow("24: not one of the latest 40", Checks.INDEX, () -> x.runOf(old, 0));
        }
        due("24: the oldest kept", x.runOf(3, 0), 1);
        due("24: its begin", x.runOf(3, 1), 2);
        due("24: run 40", x.runOf(40, 2), 21);
        due("24: run 41", x.runOf(41, 1), 21);
        due("24: run 42", x.runOf(42, 0), 1);
        due("7: runs", x.count(5), 43);
    }

    private static void wrongArguments() {
        ProcessingMemory x = Checks.with(PROGRAM);
        for (int number : new int[] {0, -1, 17, Integer.MIN_VALUE, Integer.MAX_VALUE}) {
            CHECKS.dueThrow("23", Checks.ARGUMENT, () -> x.run(number));
        }
        for (int batch : new int[] {-1, 3, Integer.MIN_VALUE, Integer.MAX_VALUE}) {
            CHECKS.dueThrow("21", Checks.INDEX, () -> x.submit(batch));
        }
        CHECKS.dueThrow("24: no run yet", Checks.INDEX, () -> x.runOf(0, 0));
        CHECKS.dueThrow("24: the first exception", Checks.INDEX, () -> x.runOf(0, 3));
        Checks.runAll(x, 0);
        CHECKS.dueThrow("24: what", Checks.ARGUMENT, () -> x.runOf(0, 3));
        CHECKS.dueThrow("24: what", Checks.ARGUMENT, () -> x.runOf(0, -1));
        CHECKS.dueThrow("24: run", Checks.INDEX, () -> x.runOf(-1, 0));
        CHECKS.dueThrow("24: run", Checks.INDEX, () -> x.runOf(1, -1));
        CHECKS.dueThrow("24: run", Checks.INDEX, () -> x.runOf(Integer.MIN_VALUE, 0));
        CHECKS.dueThrow("24: run", Checks.INDEX, () -> x.runOf(Integer.MAX_VALUE, 0));
    }
}
