/** Promises 31 to 38: predictions, conflicts, the best order and the budget. */
public final class PredictionTest {
    private static final Checks CHECKS = new Checks();

    public static void main(String[] args) {
        wouldFinish();
        wouldBe();
        wouldBeWithCoherence();
        conflicts();
        registersAreNoRows();
        conflictsOfOneBatch();
        chains();
        bestOfThree();
        bestUnderConflict();
        conflictsWithTheFirst();
        onePlanAfterAnother();
        equalOrders();
        limitsOfBest();
        bestAfterRuns();
        bestAfterChanges();
        budgets();
        budgetsFromNowOn();
        budgetOfEight();
        wrongArguments();
        CHECKS.end();
    }

    private static void due(String name, Object got, Object want) {
        CHECKS.due(name, got, want);
    }

    private static void wouldFinish() {
        ProcessingMemory x = Checks.with("banks 1 rows 2 columns 1;"
                + "batch 0: load 0 0; end; batch 0: load 1 1; end; batch 0: end;");
        due("31: nothing", x.wouldFinish(ProcessingMemory.NONE), 0);
        due("31: a batch alone", x.wouldFinish(0), 14);
        x.submit(0);
        due("31: the queue alone", x.wouldFinish(-1), 14);
        due("31: another row", x.wouldFinish(1), 25);
        due("31: the open row", x.wouldFinish(0), 18);
        due("31: an empty batch", x.wouldFinish(2), 14);
        x.submit(1);
        due("31: two of the queue", x.wouldFinish(-1), 25);
        due("31: nothing is run", x.finish(), 0);
        due("31: no row is open", x.openRow(0), -1);
        due("31: no stalls", x.stalls(0, 1), 0);
        due("31: no runs", x.count(5), 0);
        due("31: the queue stays", x.count(4), 2);
        x.run(16);
        due("31: as it was told", x.finish(), 25);
        due("31: from now on", x.wouldFinish(-1), 25);
        CHECKS.dueThrow("31: -2", Checks.INDEX, () -> x.wouldFinish(-2));
        CHECKS.dueThrow("31: 3", Checks.INDEX, () -> x.wouldFinish(3));
        CHECKS.dueThrow("31: most", Checks.INDEX, () -> x.wouldFinish(Integer.MAX_VALUE));
        CHECKS.dueThrow("31: least", Checks.INDEX, () -> x.wouldFinish(Integer.MIN_VALUE));
    }

    private static final String ADDING = "banks 2 rows 2 columns 2;"
            + "batch 0: load 0 0; add 1 1 0; end; batch 0: store 1 0; end;";

    private static void wouldBe() {
        ProcessingMemory x = Checks.with(ADDING);
        x.fill(0, 0, 5, 1);
        due("32: empty queue", x.wouldBe(0, 1, 1), 0);
        Checks.submitAll(x, 0, 0);
        due("32: lane 0", x.wouldBe(0, 1, 0), 10);
        due("32: lane 1", x.wouldBe(0, 1, 1), 12);
        due("32: another bank", x.wouldBe(1, 1, 1), 0);
        due("32: the register stays", x.register(0, 1, 1), 0);
        x.submit(1);
        x.submit(0);
        due("32: through the memory", x.wouldBe(0, 1, 0), 20);
        due("32: the memory stays", x.memory(0, 0, 0), 5);
        due("32: the times stay", x.finish(), 0);
        x.run(16);
        due("32: as it was told", x.register(0, 1, 0), 20);
    }

    private static void wouldBeWithCoherence() {
        ProcessingMemory x = Checks.with(ADDING);
        x.fill(0, 0, 5, 1);
        x.hostWrite(0, 0, 0, 100);
        Checks.submitAll(x, 0, 1, 0);
        due("32: manual", x.wouldBe(0, 1, 0), 10);
        x.setCoherence(true);
        due("32: automatic", x.wouldBe(0, 1, 0), 200);
        due("32: the line stays", x.line(0, 0), 6);
        due("32: nothing is written back", x.cache(2), 0);
        due("32: coherence stays", x.setCoherence(false), true);
        due("32: manual again", x.wouldBe(0, 1, 0), 10);
    }

    private static void conflict(boolean want, String a, String b) {
        ProcessingMemory x = Checks.with("banks 3 rows 4 columns 1; batch " + a + "; end; batch "
                + b + "; end;");
        due("33: " + a + " and " + b, x.isConflict(0, 1), want);
        due("33: " + b + " and " + a, x.isConflict(1, 0), want);
    }

    private static void conflicts() {
        conflict(false, "0: load 0 0", "0: load 1 0");
        conflict(true, "0: load 0 0", "0: load 0 1");
        conflict(true, "0: load 0 0", "0: store 1 0");
        conflict(false, "0: load 0 0", "0: store 1 1");
        conflict(true, "0: load 0 0", "0: store 0 1");
        conflict(true, "0: store 0 3", "0: store 1 3");
        conflict(false, "0: store 0 0", "0: store 0 1");
        conflict(true, "0: store 0 0", "0: set 0 1");
        conflict(false, "0: set 0 1", "0: set 1 1");
        conflict(true, "0: set 0 1", "0: set 0 1");
        conflict(false, "0: set 0 1", "1: set 0 1");
        conflict(false, "0: set 1 1", "0: load 0 1");
        conflict(false, "0: set 3 1", "0: store 2 3");
        conflict(false, "0: add 0 1 2", "0: sub 3 1 2");
        conflict(true, "0: add 0 1 2", "0: set 0 1");
        conflict(true, "0: add 0 1 2", "0: set 1 1");
        conflict(true, "0: add 0 1 2", "0: set 2 1");
        conflict(false, "0: add 0 1 2", "0: set 3 1");
        conflict(true, "0: add 0 1 2", "0: store 0 0");
        conflict(false, "0: add 0 1 2", "0: store 1 0");
        conflict(true, "0: lanes add 0", "0: store 0 0");
        conflict(true, "0: lanes add 0", "0: set 0 1");
        conflict(false, "0: lanes add 0", "0: set 1 1");
        conflict(true, "1 0: reduce add 0", "0: store 0 0");
        conflict(false, "1 0: reduce add 0", "1: store 0 0");
        conflict(true, "1 0: reduce add 0", "1: set 0 1");
        conflict(true, "1 0: reduce add 0", "0: set 0 1");
        conflict(false, "1 0: reduce add 0", "2: set 0 1");
        conflict(false, "1 0: reduce add 0", "0 1 2: set 1 1");
        conflict(false, "2 1: broadcast 0", "1: store 0 0");
        conflict(true, "2 1: broadcast 0", "1: set 0 1");
        conflict(true, "2 1: broadcast 0", "2: store 0 0");
        conflict(true, "2 1: broadcast 0", "2: set 0 1");
        conflict(false, "2 1: broadcast 0", "0: set 0 1");
        conflict(false, "1 2: broadcast 3", "2: set 0 1");
        conflict(false, "0 1: barrier", "0 1: barrier; set 0 1");
        conflict(true, "0 2: set 3 1", "1 2: store 3 0");
        conflict(true, "0: barrier; set 0 1; barrier", "0: set 1 1; load 2 2; store 0 3");
    }

    private static void registersAreNoRows() {
        for (int row = 0; row < 16; row++) {
            ProcessingMemory x = Checks.with("banks 1 rows 16 columns 1; batch 0: store 3 " + row
                    + "; end; batch 0: set 0 1; set 1 1; set 2 1; end; batch 0: load 0 " + row
                    + "; end; batch 0: load 1 " + (row + 1) % 16 + "; end;");
            due("33: registers and row " + row, x.isConflict(0, 1), false);
            due("33: the same row " + row, x.isConflict(0, 2), true);
            due("33: another row " + row, x.isConflict(0, 3), false);
        }
    }

    private static void conflictsOfOneBatch() {
        ProcessingMemory x = Checks.with("banks 2 rows 1 columns 1; batch 0: end;"
                + "batch 0 1: barrier; end; batch 0: broadcast 0; end; batch 0 1: broadcast 0; end;"
                + "batch 0: reduce add 0; end; batch 0: store 0 0; end; batch 0: set 0 0; end;");
        boolean[] want = {false, false, false, true, true, true, true};
        for (int batch = 0; batch < want.length; batch++) {
            due("33: batch " + batch + " with itself", x.isConflict(batch, batch), want[batch]);
        }
    }

    private static void chains() {
        // Batch 0 writes the register that 1 reads, 1 writes the row that 2 reads; 3 and 4 are of
        // another bank, and 4 uses nothing.
        String text = "banks 2 rows 1 columns 1; batch 0: set 0 1; end; batch 0: store 0 0; end;"
                + "batch 0: load 1 0; end; batch 1: set 0 1; end; batch 1: barrier; end;";
        int[][] queues = {
            {}, {0}, {4}, {0, 2}, {0, 1}, {0, 1, 2}, {2, 1, 0}, {0, 2, 1}, {0, 0}, {4, 4},
            {0, 3, 1, 3, 2}, {3, 0, 3, 4, 3}, {0, 0, 0, 0, 0, 0, 0, 0, 0, 0, 0, 0, 0, 0, 0, 0},
            {1, 0, 0, 2, 1, 2},
        };
        int[] want = {0, 1, 1, 1, 2, 3, 3, 2, 2, 1, 3, 3, 16, 5};
        for (int i = 0; i < queues.length; i++) {
            ProcessingMemory x = Checks.with(text);
            Checks.submitAll(x, queues[i]);
            due("34: queue " + i, x.longestChain(), want[i]);
        }
        ProcessingMemory y = Checks.with(text);
        Checks.submitAll(y, 0, 1, 2);
        y.run(1);
        due("34: what was run does not count", y.longestChain(), 2);
    }

    // Batches 0 and 2 take banks 1 and 0 three ticks each; 1 and 3 join them, 3 with register 0.
    private static final String JOINING = "banks 2 rows 1 columns 1;"
            + "batch 1: set 1 1; set 1 1; set 1 1; end; batch 0 1: barrier; end;"
            + "batch 0: set 0 1; set 0 1; set 0 1; end; batch 0 1: reduce add 0; end;";

    private static void dueOrder(String name, ProcessingMemory x, int... want) {
        for (int index = 0; index < want.length; index++) {
            due("36: " + name + ", " + index, x.bestOrder(index), want[index]);
        }
    }

    private static void dueQueue(String name, ProcessingMemory x, int... want) {
        due("37: " + name, x.count(4), want.length);
        for (int position = 0; position < want.length; position++) {
            due("37: " + name + ", " + position, x.queued(position), want[position]);
        }
    }

    private static void bestOfThree() {
        ProcessingMemory x = Checks.with(JOINING);
        Checks.submitAll(x, 0, 1, 2);
        // The barrier in the middle makes batch 2 wait: 6. The first order without that is 0 2 1.
        due("31: as it is", x.wouldFinish(-1), 6);
        due("35: best", x.bestFinish(), 3);
        dueOrder("best", x, 0, 2, 1);
        dueQueue("not reordered yet", x, 0, 1, 2);
        due("37: gain", x.reorder(), 3);
        dueQueue("reordered", x, 0, 2, 1);
        due("31: reordered", x.wouldFinish(-1), 3);
        dueOrder("then", x, 0, 1, 2);
        due("37: no gain", x.reorder(), 0);
        due("29: nothing is run", x.finish(), 0);
        x.run(16);
        due("29: as it was told", x.finish(), 3);
    }

    private static void bestUnderConflict() {
        ProcessingMemory x = Checks.with(JOINING);
        Checks.submitAll(x, 0, 3, 2);
        // Batch 2 has to stay behind batch 3: 9 as it is, 6 with batch 3 first.
        due("31: as it is", x.wouldFinish(-1), 9);
        due("35: best", x.bestFinish(), 6);
        dueOrder("best", x, 1, 0, 2);
        due("37: gain", x.reorder(), 3);
        dueQueue("reordered", x, 3, 0, 2);
        ProcessingMemory y = Checks.with(JOINING);
        Checks.submitAll(y, 2, 3, 0);
        due("31: batch 0 waits", y.wouldFinish(-1), 9);
        due("35: batch 2 before batch 3", y.bestFinish(), 6);
        dueOrder("batch 2 before batch 3", y, 0, 2, 1);
    }

    private static void conflictsWithTheFirst() {
        // Bank 0 has 3 ticks of work for batch 2 and 10 behind it, bank 1 has 13 at any time. It
        // would be better to reduce at once, but the registers have to be set before.
        ProcessingMemory x = Checks.with("banks 2 rows 1 columns 1;"
                + "batch 0:" + "set 0 1;".repeat(3) + "end; batch 1: set 0 1; end;"
                + "batch 0 1: reduce add 0; end; batch 0:" + "set 0 1;".repeat(10) + "end;"
                + "batch 1:" + "set 1 1;".repeat(13) + "end;");
        Checks.submitAll(x, 0, 2, 3, 4);
        due("35: one before it", x.bestFinish(), 19);
        dueOrder("one before it", x, 0, 1, 2, 3);
        x.run(16);
        due("29: one before it", x.finish(), 19);
        ProcessingMemory y = Checks.with("banks 2 rows 1 columns 1;"
                + "batch 0:" + "set 0 1;".repeat(3) + "end; batch 1: set 0 1; end;"
                + "batch 0 1: reduce add 0; end; batch 0:" + "set 0 1;".repeat(10) + "end;"
                + "batch 1:" + "set 1 1;".repeat(13) + "end;");
        Checks.submitAll(y, 0, 1, 2, 3, 4);
        due("35: two before it", y.bestFinish(), 19);
        dueOrder("two before it", y, 0, 1, 2, 3, 4);
    }

    private static void onePlanAfterAnother() {
        ProcessingMemory x = Checks.with(JOINING);
        Checks.submitAll(x, 0, 1, 2);
        due("37: without a look at it before", x.reorder(), 3);
        dueQueue("without a look at it before", x, 0, 2, 1);
        x.run(16);
        Checks.submitAll(x, 2, 3);
        due("35: all at 3, then 6, then 9", x.bestFinish(), 9);
        x.run(1);
        x.run(1);
        Checks.submitAll(x, 2);
        x.run(1);
        // Bank 0 is at 12 and bank 1 at 9, so that batch 0 should come before the barrier.
        Checks.submitAll(x, 1, 0);
        due("31: as it is", x.wouldFinish(-1), 15);
        dueOrder("nothing is left of the plan before", x, 1, 0);
        due("35: best", x.bestFinish(), 12);
    }

    private static void equalOrders() {
        ProcessingMemory x = Checks.with(JOINING);
        Checks.submitAll(x, 1, 1, 1, 1, 1, 1);
        due("35: barriers", x.bestFinish(), 0);
        dueOrder("barriers", x, 0, 1, 2, 3, 4, 5);
        ProcessingMemory y = Checks.with(JOINING);
        Checks.submitAll(y, 0, 1, 1, 2);
        due("35: two barriers", y.bestFinish(), 3);
        dueOrder("two barriers", y, 0, 3, 1, 2);
        due("37: gain", y.reorder(), 3);
        dueQueue("two barriers", y, 0, 2, 1, 1);
    }

    private static void limitsOfBest() {
        ProcessingMemory x = Checks.with(JOINING);
        due("35: empty", x.bestFinish(), 0);
        due("37: empty", x.reorder(), 0);
        CHECKS.dueThrow("36: empty", Checks.INDEX, () -> x.bestOrder(0));
        Checks.submitAll(x, 0, 1, 2, 3, 0, 1);
        due("36: six", x.bestOrder(5) >= 0, true);
        for (int index : new int[] {-1, 6, Integer.MIN_VALUE, Integer.MAX_VALUE}) {
            CHECKS.dueThrow("36: " + index, Checks.INDEX, () -> x.bestOrder(index));
        }
        x.submit(2);
        CHECKS.dueThrow("35: seven", Checks.STATE, x::bestFinish);
        CHECKS.dueThrow("36: seven", Checks.STATE, () -> x.bestOrder(0));
        CHECKS.dueThrow("36: the first exception", Checks.STATE, () -> x.bestOrder(-1));
        CHECKS.dueThrow("37: seven", Checks.STATE, x::reorder);
        dueQueue("nothing changed", x, 0, 1, 2, 3, 0, 1, 2);
    }

    private static void bestAfterRuns() {
        ProcessingMemory x = Checks.with(JOINING);
        Checks.runAll(x, 2);
        due("35: the present finish", x.bestFinish(), 3);
        // Bank 0 is at 3, so that the barrier costs bank 1 nothing behind batch 0.
        Checks.submitAll(x, 1, 0);
        due("31: as it is", x.wouldFinish(-1), 6);
        due("35: best", x.bestFinish(), 3);
        dueOrder("best", x, 1, 0);
        x.run(1);
        due("35: too late", x.bestFinish(), 6);
    }

    private static void bestAfterChanges() {
        ProcessingMemory x = Checks.with(JOINING);
        Checks.submitAll(x, 0, 1);
        x.save(0);
        due("35: two", x.bestFinish(), 3);
        dueOrder("two", x, 0, 1);
        x.submit(2);
        due("35: three", x.bestFinish(), 3);
        dueOrder("three", x, 0, 2, 1);
        x.run(2);
        due("35: after two runs", x.bestFinish(), 6);
        dueOrder("after two runs", x, 0);
        x.restore(0);
        due("35: restored", x.bestFinish(), 3);
        dueOrder("restored", x, 0, 1);
        Checks.type(x, "banks 1 rows 1 columns 1; batch 0: set 0 1; end;");
        x.load();
        due("35: loaded", x.bestFinish(), 0);
        x.submit(0);
        due("35: submitted", x.bestFinish(), 1);
        Checks.type(x, "banks 1 rows 1 columns 1; batch 0: set 0 1; end;");
        x.load();
        due("35: loaded again", x.bestFinish(), 0);
    }

    private static void budgets() {
        ProcessingMemory x = Checks.with("banks 1 rows 2 columns 1; budget 7; batch 0:"
                + "load 0 0; load 1 1; load 2 0; load 3 1; end;");
        x.submit(0);
        // 164, 75, 64 and 47 with budgets of 1, 2, 3 and more.
        int[][] want = {
            {Integer.MAX_VALUE, 1}, {164, 1}, {163, 2}, {75, 2}, {74, 3}, {64, 3}, {63, 4}, {47, 4},
        };
        for (int[] w : want) {
            due("38: " + w[0], x.budgetFor(w[0]), w[1]);
        }
        CHECKS.dueThrow("38: 46", Checks.ELEMENT, () -> x.budgetFor(46));
        CHECKS.dueThrow("38: -1", Checks.ELEMENT, () -> x.budgetFor(-1));
        CHECKS.dueThrow("38: least", Checks.ELEMENT, () -> x.budgetFor(Integer.MIN_VALUE));
        due("38: the setting stays", x.wouldFinish(-1), 47);
        x.run(1);
        due("38: the setting stays", x.finish(), 47);
    }

    private static void budgetsFromNowOn() {
        ProcessingMemory x = Checks.with("banks 1 rows 2 columns 1;"
                + "batch 0: load 0 0; load 1 1; end; batch 0: load 2 0; load 3 1; end;");
        due("38: nothing to do", x.budgetFor(0), 1);
        Checks.runAll(x, 0);
        due("38: empty queue", x.budgetFor(25), 1);
        CHECKS.dueThrow("38: empty queue", Checks.ELEMENT, () -> x.budgetFor(24));
        x.submit(1);
        // Activations started at 0 and 11 already: 125, 75, 64 and 47.
        int[][] want = {{125, 1}, {124, 2}, {75, 2}, {74, 3}, {64, 3}, {63, 4}, {47, 4}};
        for (int[] w : want) {
            due("38: from now on, " + w[0], x.budgetFor(w[0]), w[1]);
        }
    }

    private static void budgetOfEight() {
        ProcessingMemory x = Checks.with("banks 1 rows 2 columns 1; window 1000; budget 1; batch 0:"
                + "load 0 0; load 1 1; load 2 0; load 3 1; load 0 0; load 1 1; load 2 0; load 3 1;"
                + "end;");
        x.submit(0);
        // Without waiting the eighth activation starts at 77; it waits for 1000 with a budget of 7.
        due("38: eight", x.budgetFor(91), 8);
        due("38: eight still", x.budgetFor(1013), 8);
        due("38: seven", x.budgetFor(1014), 7);
        CHECKS.dueThrow("38: none", Checks.ELEMENT, () -> x.budgetFor(90));
    }

    private static void wrongArguments() {
        ProcessingMemory x = Checks.with(ADDING);
        int[][] wrong = {{-1, 0, 0}, {2, 0, 0}, {0, -1, 0}, {0, 4, 0}, {0, 0, -1}, {0, 0, 2}};
        for (int[] w : wrong) {
            CHECKS.dueThrow("32", Checks.INDEX, () -> x.wouldBe(w[0], w[1], w[2]));
        }
        int[][] pairs = {{-1, 0}, {0, -1}, {2, 0}, {0, 2}, {Integer.MIN_VALUE, 0}};
        for (int[] p : pairs) {
            CHECKS.dueThrow("33", Checks.INDEX, () -> x.isConflict(p[0], p[1]));
        }
    }
}
