/** The boundary cases of the predictions, of 'CONFLICTS' and of the saved states. */
public final class PredictionLimitsTest {
    private static final Checks CHECKS = new Checks();
    private static final int NONE = ProcessingMemory.NONE;

    public static void main(String[] args) {
        noBatches();
        fullQueue();
        chainsOfAnyLength();
        conflictsAtTheEdges();
        sixBatches();
        sevenBatches();
        oneAndTwoBatches();
        ordersOfSix();
        budgetOfNine();
        limitIsReached();
        budgetOfTheSetting();
        savedAtTheLimits();
        slots();
        CHECKS.end();
    }

    private static void due(String name, Object got, Object want) {
        CHECKS.due(name, got, want);
    }

    private static void noBatches() {
        ProcessingMemory x = new ProcessingMemory();
        due("31: nothing", x.wouldFinish(NONE), 0);
        due("32: nothing", x.wouldBe(0, 3, 0), 0);
        due("34: nothing", x.longestChain(), 0);
        due("35: nothing", x.bestFinish(), 0);
        due("37: nothing", x.reorder(), 0);
        due("38: nothing", x.budgetFor(0), 1);
        due("38: nothing", x.budgetFor(Integer.MAX_VALUE), 1);
        due("23: nothing", x.run(1), 0);
        due("23: nothing", x.run(16), 0);
        due("16: nothing", x.flushAll(), 0);
        CHECKS.dueThrow("38: before 0", Checks.ELEMENT, () -> x.budgetFor(-1));
        CHECKS.dueThrow("31: no batch", Checks.INDEX, () -> x.wouldFinish(0));
        CHECKS.dueThrow("33: no batch", Checks.INDEX, () -> x.isConflict(0, 0));
        CHECKS.dueThrow("21: no batch", Checks.INDEX, () -> x.submit(0));
    }

    private static void fullQueue() {
        ProcessingMemory x = Checks.with("banks 1 rows 1 columns 1; batch 0: set 1 1; end;"
                + "batch 0: add 0 0 1; end;");
        Checks.runAll(x, 0);
        for (int i = 1; i <= 16; i++) {
            x.submit(1);
            due("32: " + i, x.wouldBe(0, 0, 0), i);
            // Each addition waits for the one before.
            due("31: " + i, x.wouldFinish(NONE), 1 + 2 * i);
        }
        due("31: one more than the queue holds", x.wouldFinish(1), 35);
        due("31: another one", x.wouldFinish(0), 33);
        due("38: sixteen", x.budgetFor(33), 1);
        CHECKS.dueThrow("38: sixteen", Checks.ELEMENT, () -> x.budgetFor(32));
        due("7: the queue stays", x.count(4), 16);
        due("12: the register stays", x.register(0, 0, 0), 0);
        due("29: the finish stays", x.finish(), 1);
        x.run(16);
        due("12: as it was told", x.register(0, 0, 0), 16);
        due("29: as it was told", x.finish(), 33);
        due("31: the present finish", x.wouldFinish(NONE), 33);
        due("32: the present value", x.wouldBe(0, 0, 0), 16);
    }

    private static void chainsOfAnyLength() {
        ProcessingMemory x = Checks.with("banks 1 rows 1 columns 1; batch 0: set 1 1; end;"
                + "batch 0: barrier; end;");
        ProcessingMemory y = Checks.with("banks 1 rows 1 columns 1; batch 0: set 1 1; end;"
                + "batch 0: barrier; end;");
        for (int i = 0; i <= 16; i++) {
            due("34: conflicting, " + i, x.longestChain(), i);
            due("34: not conflicting, " + i, y.longestChain(), Math.min(i, 1));
            if (i < 16) {
                x.submit(0);
                y.submit(1);
            }
        }
        x.run(15);
        due("34: one is left", x.longestChain(), 1);
        x.run(1);
        due("34: none is left", x.longestChain(), 0);
        // The first and the last one of the queue.
        ProcessingMemory z = Checks.with("banks 1 rows 1 columns 1; batch 0: set 1 1; end;"
                + "batch 0: barrier; end;");
        Checks.submitAll(z, 0, 1, 1, 1, 1, 1, 1, 1, 1, 1, 1, 1, 1, 1, 1, 0);
        due("34: the ends of the queue", z.longestChain(), 2);
    }

    private static void conflictsAtTheEdges() {
        for (int bank = 0; bank < 8; bank++) {
            ProcessingMemory x = Checks.with("banks 8 rows 16 columns 1; batch " + bank
                    + ": store 3 15; end; batch 0 1 2 3 4 5 6 7: load 0 15; end; batch "
                    + (bank + 1) % 8 + ": store 3 15; set 3 1; end; batch " + bank
                    + ": set 3 1; end; batch " + bank + ": load 2 14; set 0 1; end; batch " + bank
                    + ": lanes add 3; end;");
            due("33: the last row of bank " + bank, x.isConflict(0, 1), true);
            due("33: of another bank", x.isConflict(0, 2), false);
            due("33: of another bank", x.isConflict(2, 1), true);
            due("33: the last register", x.isConflict(0, 3), true);
            due("33: the row before", x.isConflict(0, 4), false);
            due("33: the first register", x.isConflict(1, 4), true);
            due("33: read and written", x.isConflict(5, 0), true);
        }
    }

    // Batches 0 and 2 take banks 1 and 0 three ticks each; 1 joins them.
    private static final String JOINING = "banks 2 rows 1 columns 1;"
            + "batch 1: set 1 1; set 1 1; set 1 1; end; batch 0 1: barrier; end;"
            + "batch 0: set 0 1; set 0 1; set 0 1; end;";

    private static void dueOrder(String name, ProcessingMemory x, int... want) {
        for (int index = 0; index < want.length; index++) {
            due("36: " + name + ", " + index, x.bestOrder(index), want[index]);
        }
    }

    private static void dueQueue(String name, ProcessingMemory x, int... want) {
        due("37: " + name, x.count(4), want.length);
        for (int position = 0; position < want.length; position++) {
            due("37: " + name + ", " + position, x.queued(position), want[position]);
        }
    }

    private static void sixBatches() {
        ProcessingMemory x = Checks.with(JOINING);
        Checks.submitAll(x, 0, 1, 2, 0, 1, 2);
        // As it is, bank 0 waits 3 ticks; each barrier has to come behind as much work of both.
        due("31: as it is", x.wouldFinish(NONE), 9);
        due("35: best", x.bestFinish(), 6);
        dueOrder("best", x, 0, 2, 1, 3, 5, 4);
        due("37: gain", x.reorder(), 3);
        dueQueue("reordered", x, 0, 2, 1, 0, 2, 1);
        due("31: reordered", x.wouldFinish(NONE), 6);
        due("37: no more gain", x.reorder(), 0);
        dueOrder("now", x, 0, 1, 2, 3, 4, 5);
        x.run(16);
        due("29: as it was told", x.finish(), 6);
    }

    private static void sevenBatches() {
        ProcessingMemory x = Checks.with(JOINING);
        Checks.submitAll(x, 2, 0, 1, 2, 0, 1, 2);
        CHECKS.dueThrow("35: seven", Checks.STATE, x::bestFinish);
        CHECKS.dueThrow("36: seven", Checks.STATE, () -> x.bestOrder(0));
        CHECKS.dueThrow("36: seven, the first exception", Checks.STATE, () -> x.bestOrder(7));
        CHECKS.dueThrow("37: seven", Checks.STATE, x::reorder);
        dueQueue("seven", x, 2, 0, 1, 2, 0, 1, 2);
        x.run(1);
        // Bank 0 is at 3, so that the first barrier costs bank 1 nothing behind batch 0.
        due("35: six are left", x.bestFinish(), 9);
        due("36: six are left", x.bestOrder(5), 5);
        CHECKS.dueThrow("36: six are left", Checks.INDEX, () -> x.bestOrder(6));
        x.submit(1);
        CHECKS.dueThrow("35: seven again", Checks.STATE, x::bestFinish);
        for (int i = 8; i <= 16; i++) {
            x.submit(1);
            CHECKS.dueThrow("35: " + i, Checks.STATE, x::bestFinish);
            CHECKS.dueThrow("36: " + i, Checks.STATE, () -> x.bestOrder(0));
            CHECKS.dueThrow("37: " + i, Checks.STATE, x::reorder);
        }
    }

    private static void oneAndTwoBatches() {
        ProcessingMemory x = Checks.with(JOINING);
        x.submit(2);
        due("35: one", x.bestFinish(), 3);
        dueOrder("one", x, 0);
        CHECKS.dueThrow("36: one", Checks.INDEX, () -> x.bestOrder(1));
        due("37: one", x.reorder(), 0);
        dueQueue("one", x, 2);
        x.submit(2);
        due("35: the same twice", x.bestFinish(), 6);
        dueOrder("the same twice", x, 0, 1);
        due("37: the same twice", x.reorder(), 0);
    }

    private static void ordersOfSix() {
        // Each batch joins two banks and no two conflict, so that all 720 orders are allowed.
        StringBuilder text = new StringBuilder("banks 7 rows 1 columns 1;");
        for (int batch = 0; batch < 6; batch++) {
            String set = "set " + batch % 4 + " 1;";
            text.append("batch ").append(batch).append(" ").append(batch + 1).append(": barrier;")
                    .append(set.repeat(1 + batch % 3)).append("end;");
        }
        int[][] queues = {
            {5, 4, 3, 2, 1, 0}, {0, 1, 2, 3, 4, 5}, {3, 1, 4, 0, 5, 2}, {2, 3, 1}, {4, 2, 5, 3, 1},
        };
        for (int[] queue : queues) {
            dueBestOfAll(text.toString(), queue);
        }
    }

    private static void dueBestOfAll(String text, int... queue) {
        int[] best = new int[queue.length];
        int want = leastFinish(text, queue, new int[queue.length], 0, Integer.MAX_VALUE, best);
        ProcessingMemory x = Checks.with(text);
        Checks.submitAll(x, queue);
        int before = x.wouldFinish(NONE);
        due("35: the least of all orders", x.bestFinish(), want);
        dueOrder("the first one of the best", x, best);
        due("37: gain", x.reorder(), before - want);
        due("31: reordered", x.wouldFinish(NONE), want);
    }

    /** Tries all orders behind the first ones, in lexicographic order, and keeps the best one. */
    private static int leastFinish(
            String text, int[] queue, int[] order, int fixed, int known, int[] best) {
        if (fixed == queue.length) {
            ProcessingMemory x = Checks.with(text);
            for (int position : order) {
                x.submit(queue[position]);
            }
            int finish = x.wouldFinish(NONE);
            if (finish < known) {
                System.arraycopy(order, 0, best, 0, order.length);
            }
            return Math.min(finish, known);
        }
        int least = known;
        for (int position = 0; position < queue.length; position++) {
            boolean isFree = true;
            for (int i = 0; i < fixed; i++) {
                isFree &= order[i] != position;
            }
            if (isFree) {
                order[fixed] = position;
                least = leastFinish(text, queue, order, fixed + 1, least, best);
            }
        }
        return least;
    }

    // Activations that do not wait start at 0, 2, 4 and so on; a load takes two ticks.
    private static final String ROWS = "banks 1 rows 2 columns 1; activate 1; access 1;"
            + "window 1000; budget 1; batch 0: load 0 0; end; batch 0: load 0 1; end;";

    private static void budgetOfNine() {
        ProcessingMemory x = Checks.with(ROWS);
        Checks.submitAll(x, 0, 1, 0, 1, 0, 1, 0, 1, 0);
        // The ninth activation waits for 1000 with a budget of 8. With 9 it would start at 16.
        due("38: eight", x.budgetFor(1002), 8);
        due("38: eight", x.budgetFor(1003), 8);
        due("38: seven", x.budgetFor(1004), 7);
        due("38: one", x.budgetFor(8002), 1);
        due("38: two", x.budgetFor(8001), 2);
        CHECKS.dueThrow("38: no nine", Checks.ELEMENT, () -> x.budgetFor(1001));
        CHECKS.dueThrow("38: no nine", Checks.ELEMENT, () -> x.budgetFor(18));
        due("31: the setting stays", x.wouldFinish(NONE), 8002);
        // Eight activations before the budget is asked for count as well.
        ProcessingMemory y = Checks.with(ROWS.replace("budget 1;", "budget 8;"));
        Checks.runAll(y, 0, 1, 0, 1, 0, 1, 0, 1);
        due("29: eight do not wait", y.finish(), 16);
        y.submit(0);
        due("38: the ninth waits for the first", y.budgetFor(1002), 8);
        due("38: the ninth waits for the last", y.budgetFor(1016), 1);
        due("38: the ninth waits for the one before", y.budgetFor(1015), 2);
        CHECKS.dueThrow("38: no less", Checks.ELEMENT, () -> y.budgetFor(1001));
    }

    private static void limitIsReached() {
        ProcessingMemory x = Checks.with("banks 2 rows 1 columns 1; batch 1: mul 3 3 3; end;");
        due("38: 0", x.budgetFor(0), 1);
        x.submit(0);
        due("38: reached", x.budgetFor(5), 1);
        CHECKS.dueThrow("38: exceeded", Checks.ELEMENT, () -> x.budgetFor(4));
        due("38: most", x.budgetFor(Integer.MAX_VALUE), 1);
        CHECKS.dueThrow("38: least", Checks.ELEMENT, () -> x.budgetFor(Integer.MIN_VALUE));
        x.run(1);
        due("38: the present finish", x.budgetFor(5), 1);
        CHECKS.dueThrow("38: the present finish", Checks.ELEMENT, () -> x.budgetFor(4));
    }

    private static void budgetOfTheSetting() {
        for (int budget = 1; budget <= 8; budget++) {
            ProcessingMemory x = Checks.with(ROWS.replace("budget 1;", "budget " + budget + ";"));
            for (int i = 0; i <= budget; i++) {
                x.submit(i % 2);
            }
            int finish = x.wouldFinish(NONE);
            due("31: the last one waits", finish, 1002);
            due("38: as it is", x.budgetFor(finish), budget);
            due("35: as it is", x.count(4) <= 6 ? x.bestFinish() : finish, finish);
        }
    }

    private static void savedAtTheLimits() {
        ProcessingMemory x = Checks.with("banks 1 rows 8 columns 1; cache 8; budget 8;"
                + "batch 0: load 0 7; store 0 0; end; batch 0: set 3 5; end;");
        for (int row = 0; row < 8; row++) {
            x.hostWrite(0, row, 0, row + 1);
        }
        for (int i = 0; i < 41; i++) {
            Checks.runAll(x, i % 2);
        }
        for (int i = 0; i < 16; i++) {
            x.submit((i + 1) % 2);
        }
        x.setCoherence(true);
        x.save(1);
        java.util.List<Object> before = View.withLatestRuns(x);
        x.run(16);
        x.hostWrite(0, 7, 0, 77);
        x.flushAll();
        x.invalidate(0, 6);
        x.setCoherence(false);
        due("39: changed", x.count(4), 0);
        x.restore(1);
        due("40: as before", View.withLatestRuns(x), before);
        due("40: the oldest run", x.runOf(1, 0), 1);
        CHECKS.dueThrow("40: one too old", Checks.INDEX, () -> x.runOf(0, 0));
        CHECKS.dueThrow("40: one too new", Checks.INDEX, () -> x.runOf(41, 0));
        CHECKS.dueThrow("40: the queue is full", Checks.STATE, () -> x.submit(0));
        due("40: all lines are dirty", x.flushAll(), 8);
    }

    private static void slots() {
        for (int slot = 0; slot < 2; slot++) {
            int saved = slot;
            int other = 1 - slot;
            ProcessingMemory x = new ProcessingMemory();
            CHECKS.dueThrow("40: nothing yet", Checks.ELEMENT, () -> x.restore(saved));
            x.fill(0, 0, 3, 0);
            x.save(slot);
            CHECKS.dueThrow("40: not the other one", Checks.ELEMENT, () -> x.restore(other));
            due("10: nothing changed", x.memory(0, 0, 0), 3);
            x.fill(0, 0, 4, 0);
            x.restore(slot);
            due("40: restored", x.memory(0, 0, 0), 3);
            x.fill(0, 0, 5, 0);
            x.restore(slot);
            due("40: it stays saved", x.memory(0, 0, 0), 3);
            Checks.type(x, "x");
            CHECKS.dueThrow("4: error", Checks.ARGUMENT, x::load);
            x.restore(slot);
            due("4: it stays saved", x.memory(0, 0, 0), 3);
            Checks.type(x, "banks 1 rows 1 columns 1;");
            x.load();
            CHECKS.dueThrow("4: removed", Checks.ELEMENT, () -> x.restore(saved));
            CHECKS.dueThrow("4: removed", Checks.ELEMENT, () -> x.restore(other));
        }
    }
}
