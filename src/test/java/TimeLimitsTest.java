/** The boundary cases of 'TIMES' and 'THE QUEUE', and those of the settings in their effect. */
public final class TimeLimitsTest {
    private static final Checks CHECKS = new Checks();

    public static void main(String[] args) {
        zeroAtFirst();
        activate();
        access();
        computeAndMultiply();
        reduceAndTransfer();
        window();
        budget();
        defaultBudget();
        openRowsAreNoActivations();
        activationsOfEachBank();
        everyRegisterOfTheLastBank();
        beginAndEnd();
        everyRowIsOpened();
        greatTimes();
        manyCommands();
        emptyBatches();
        runNumbers();
        fortyRuns();
        CHECKS.end();
    }

    private static void due(String name, Object got, Object want) {
        CHECKS.due(name, got, want);
    }

    /** A program with a setting; 0 or less stands for none. */
    private static ProcessingMemory ran(String sizes, String name, int value, String batch) {
        String setting = value > 0 ? name + " " + value + ";" : "";
        ProcessingMemory x = Checks.with(sizes + ";" + setting + "batch " + batch + " end;");
        Checks.runAll(x, 0);
        return x;
    }

    private static void zeroAtFirst() {
        ProcessingMemory x = Checks.with("banks 8 rows 16 columns 8;");
        for (int bank = 0; bank < 8; bank++) {
            due("25: 0 at first", x.clock(bank), 0);
            due("27: none at first", x.openRow(bank), ProcessingMemory.NONE);
            for (int i = 0; i < 4; i++) {
                due("26: 0 at first", x.ready(bank, i), 0);
                due("28: 0 at first", x.stalls(bank, i), 0);
            }
        }
        due("29: 0 at first", x.finish(), 0);
    }

    private static void activate() {
        int[][] cases = {{1, 1}, {2, 2}, {100, 100}, {0, 10}};
        for (int[] c : cases) {
            ProcessingMemory x = ran("banks 1 rows 1 columns 1", "activate", c[0], "0: load 0 0;");
            due("activate " + c[0] + ", clock", x.clock(0), c[1] + 1);
            due("activate " + c[0] + ", ready", x.ready(0, 0), c[1] + 4);
            due("activate " + c[0] + ", stalls", x.stalls(0, 1), c[1]);
        }
    }

    private static void access() {
        int[][] cases = {{1, 1}, {2, 2}, {100, 100}, {0, 4}};
        for (int[] c : cases) {
            ProcessingMemory x = ran("banks 1 rows 1 columns 1", "access", c[0],
                    "0: load 0 0; store 1 0;");
            due("access " + c[0] + ", load", x.ready(0, 0), 10 + c[1]);
            due("access " + c[0] + ", store", x.clock(0), 11 + c[1]);
            due("access " + c[0] + ", store is no write", x.ready(0, 1), 0);
        }
    }

    private static void computeAndMultiply() {
        int[][] cases = {{1, 1}, {2, 2}, {100, 100}, {0, -1}};
        for (int[] c : cases) {
            int compute = c[0] > 0 ? c[1] : 2;
            ProcessingMemory x = ran("banks 1 rows 1 columns 8", "compute", c[0],
                    "0: add 0 0 0; lanes xor 1; mul 2 2 2;");
            due("compute " + c[0], x.ready(0, 0), compute);
            due("compute " + c[0] + ", lanes", x.ready(0, 1), 1 + 3 * compute);
            due("compute " + c[0] + ", mul", x.ready(0, 2), 7);
            int multiply = c[0] > 0 ? c[1] : 5;
            x = ran("banks 1 rows 1 columns 8", "multiply", c[0],
                    "0: mul 0 0 0; lanes mul 1; add 2 2 2;");
            due("multiply " + c[0], x.ready(0, 0), multiply);
            due("multiply " + c[0] + ", lanes", x.ready(0, 1), 1 + 3 * multiply);
            due("multiply " + c[0] + ", add", x.ready(0, 2), 4);
        }
    }

    private static void reduceAndTransfer() {
        int[][] cases = {{1, 1}, {2, 2}, {100, 100}, {0, -1}};
        for (int[] c : cases) {
            int reduce = c[0] > 0 ? c[1] : 3;
            ProcessingMemory x = ran("banks 8 rows 1 columns 1", "reduce", c[0],
                    "7 0: reduce mul 3;");
            due("reduce " + c[0], x.clock(0), reduce);
            due("reduce " + c[0], x.clock(7), reduce);
            due("reduce " + c[0] + ", lowest", x.ready(0, 3), reduce);
            due("reduce " + c[0] + ", other", x.ready(7, 3), 0);
            int transfer = c[0] > 0 ? c[1] : 6;
            x = ran("banks 8 rows 1 columns 1", "transfer", c[0], "0 7: broadcast 3;");
            due("transfer " + c[0], x.clock(0), transfer);
            due("transfer " + c[0], x.clock(7), transfer);
            due("transfer " + c[0], x.ready(0, 3), transfer);
            due("transfer " + c[0], x.ready(7, 3), transfer);
        }
    }

    private static void window() {
        // The second activation could start at 2; it starts at the end of the window, if that is
        // later.
        int[][] cases = {{1, 1}, {2, 2}, {3, 3}, {4, 4}, {999, 999}, {1000, 1000}, {0, 50}};
        for (int[] c : cases) {
            ProcessingMemory x = ran("banks 1 rows 2 columns 1; budget 1; activate 1", "window",
                    c[0], "0: load 0 0; load 1 1;");
            int start = c[1] > 2 ? c[1] : 2;
            due("window " + c[0], x.ready(0, 1), start + 5);
            due("window " + c[0] + ", stalls", x.stalls(0, 2), start - 2);
        }
    }

    // Activations that do not wait start at 0, 2, 4 and so on.
    private static final String ROWS = "banks 1 rows 2 columns 1; activate 1; access 1;"
            + "window 1000;";
    private static final String LOADS = "batch 0: load 0 0; end; batch 0: load 0 1; end;";

    private static void budget() {
        for (int budget = 1; budget <= 8; budget++) {
            dueBudget("budget " + budget, "budget " + budget + ";", budget);
        }
    }

    private static void defaultBudget() {
        dueBudget("budget 4 without the setting", "", 4);
    }

    private static void dueBudget(String name, String setting, int budget) {
        ProcessingMemory x = Checks.with(ROWS + setting + LOADS);
        for (int i = 0; i < budget; i++) {
            Checks.runAll(x, i % 2);
            due(name + ", activation " + i, x.stalls(0, 2), 0);
            due(name + ", finish " + i, x.finish(), 2 * i + 2);
        }
        Checks.runAll(x, budget % 2);
        due(name + ", one more waits", x.stalls(0, 2), 1000 - 2 * budget);
        due(name + ", until 1000", x.finish(), 1002);
        Checks.runAll(x, (budget + 1) % 2);
        // That of a budget of 1 waits for 2000, the others could start when they may.
        due(name + ", the next one", x.finish(), budget == 1 ? 2002 : 1004);
        due(name + ", the next one", x.stalls(0, 2), budget == 1 ? 1996 : 1000 - 2 * budget);
    }

    private static void openRowsAreNoActivations() {
        ProcessingMemory x = Checks.with(ROWS + "budget 2;" + LOADS);
        Checks.runAll(x, 0, 0, 0, 0, 0, 1);
        due("one activation of five loads", x.stalls(0, 1), 2);
        due("the second one does not wait", x.stalls(0, 2), 0);
        Checks.runAll(x, 0);
        due("the third one waits", x.finish(), 1002);
    }

    private static void activationsOfEachBank() {
        for (int other = 1; other < 8; other++) {
            ProcessingMemory x = Checks.with("banks 8 rows 2 columns 1; budget 1; window 100;"
                    + "batch 0:" + "set 3 1;".repeat(10) + "load 0 0; end; batch " + other
                    + ": load 0 0; end; batch 0 " + other + ": load 1 1; end;");
            Checks.runAll(x, 0, 1, 2);
            // Bank 0 has activations at 10 and then 110, the other one at 0 and then 100.
            due("28: bank 0", x.stalls(0, 2), 110 - 21);
            due("26: bank 0", x.ready(0, 1), 124);
            due("28: bank " + other, x.stalls(other, 2), 100 - 11);
            due("26: bank " + other, x.ready(other, 1), 114);
            due("38: one is enough", x.budgetFor(124), 1);
        }
    }

    private static void everyRegisterOfTheLastBank() {
        for (int bank = 0; bank < 8; bank++) {
            for (int register = 0; register < 4; register++) {
                String three = " " + register + " " + register + " " + register;
                ProcessingMemory x = Checks.with("banks 8 rows 1 columns 1; batch " + bank
                        + ": mul" + three + "; end; batch " + bank + ": store 0 0; end; batch "
                        + bank + ": barrier; end;");
                due("31: a ready time", x.wouldFinish(0), 5);
                due("31: a clock", x.wouldFinish(1), 14);
                Checks.runAll(x, 0);
                due("29: a ready time", x.finish(), 5);
                due("24: a ready time", x.runOf(0, 2), 5);
                due("25: the clock", x.clock(bank), 1);
                Checks.runAll(x, 2);
                due("25: barrier waits for all registers", x.clock(bank), 5);
                due("28: barrier waits for all registers", x.stalls(bank, 3), 4);
                Checks.runAll(x, 1);
                due("29: a clock", x.finish(), 19);
                due("24: a clock", x.runOf(2, 2), 19);
            }
        }
    }

    private static void beginAndEnd() {
        for (int bank = 0; bank < 8; bank++) {
            // All banks but one are at 3.
            StringBuilder others = new StringBuilder();
            for (int other = 7; other >= 0; other--) {
                others.append(other == bank ? "" : " " + other);
            }
            ProcessingMemory x = Checks.with("banks 8 rows 1 columns 1; batch" + others
                    + ": set 0 1; set 0 1; set 0 1; end; batch 7 6 5 4 3 2 1 0: barrier; end;"
                    + "batch " + bank + ": set 1 1; end;");
            Checks.runAll(x, 2, 0, 1);
            due("24: begin, the least clock", x.runOf(2, 1), 1);
            due("24: end", x.runOf(2, 2), 3);
            due("24: begin of the others", x.runOf(1, 1), 0);
            for (int other = 0; other < 8; other++) {
                due("28: bank " + other, x.stalls(other, 3), other == bank ? 2 : 0);
                due("25: bank " + other, x.clock(other), 3);
            }
        }
    }

    private static void everyRowIsOpened() {
        StringBuilder batches = new StringBuilder();
        for (int row = 0; row < 12; row++) {
            batches.append("batch 7: store 0 ").append(row + 4).append("; end;");
        }
        ProcessingMemory x = Checks.with("banks 8 rows 16 columns 1;" + batches);
        for (int row = 0; row < 12; row++) {
            Checks.runAll(x, row);
            due("27: row", x.openRow(7), row + 4);
            due("28: activations", x.stalls(7, 1), 10 * (row + 1));
        }
        due("27: the other bank", x.openRow(6), ProcessingMemory.NONE);
        ProcessingMemory y = Checks.with("banks 1 rows 1 columns 1; batch 0: load 0 0; end;");
        Checks.runAll(y, 0, 0);
        due("27: row 0 is a row", y.openRow(0), 0);
        due("28: and is opened once", y.stalls(0, 1), 10);
    }

    private static void greatTimes() {
        ProcessingMemory x = Checks.with("banks 1 rows 2 columns 1; budget 1; window 1000;"
                + "activate 100; access 100; batch 0:" + "load 0 0; load 0 1;".repeat(30)
                + "end;");
        for (int i = 0; i < 16; i++) {
            x.submit(0);
        }
        // An activation each 1000 ticks; a load waits 99 ticks for its register and 800 more.
        due("31: sixteen batches", x.wouldFinish(-1), 959_200);
        due("31: and one more", x.wouldFinish(0), 1_019_200);
        due("38: one is enough", x.budgetFor(959_200), 1);
        x.run(16);
        due("29: finish", x.finish(), 959_200);
        due("28: hazards", x.stalls(0, 0), 959 * 99);
        due("28: activations", x.stalls(0, 1), 960 * 100);
        due("28: budget", x.stalls(0, 2), 959 * 800);
        due("24: begin of the last run", x.runOf(15, 1), 899_101);
        due("30: utilization", x.utilization(0), 960 / 959_200.0);
    }

    private static void manyCommands() {
        ProcessingMemory x = Checks.with("banks 2 rows 1 columns 1; batch 1: set 0 1;"
                + "barrier;".repeat(59) + "end;");
        Checks.runAll(x, 0);
        due("8: sixty", x.commands(0), 60);
        due("30: more commands than ticks", x.utilization(1), 60.0);
        due("30: none", x.utilization(0), 0.0);
    }

    private static void emptyBatches() {
        ProcessingMemory x = Checks.with("banks 2 rows 1 columns 1; batch 0 1: end;"
                + "batch 1: set 0 1; end;");
        Checks.runAll(x, 0);
        due("7: an empty batch is run", x.count(5), 1);
        due("24: begin", x.runOf(0, 1), 0);
        due("24: end", x.runOf(0, 2), 0);
        due("29: finish", x.finish(), 0);
        CHECKS.dueThrow("30: the finish is 0", Checks.STATE, () -> x.utilization(0));
        Checks.runAll(x, 1, 0);
        due("24: begin", x.runOf(2, 1), 0);
        due("24: end", x.runOf(2, 2), 1);
        due("30: utilization", x.utilization(0), 0.0);
        due("30: utilization", x.utilization(1), 1.0);
    }

    private static void runNumbers() {
        for (int queued = 0; queued <= 16; queued++) {
            for (int number = 1; number <= 16; number++) {
                ProcessingMemory x = Checks.with("banks 1 rows 1 columns 1;"
                        + "batch 0: set 0 1; end; batch 0: barrier; end;");
                for (int i = 0; i < queued; i++) {
                    x.submit(i / 8 % 2);
                }
                int due = Math.min(number, queued);
                String name = number + " of " + queued;
                due("23: " + name, x.run(number), due);
                due("7: " + name + " left", x.count(4), queued - due);
                due("7: " + name + " runs", x.count(5), due);
                due("29: " + name, x.finish(), Math.min(due, 8));
                if (due < queued) {
                    due("22: " + name, x.queued(0), due / 8 % 2);
                    due("22: " + name, x.queued(queued - due - 1), (queued - 1) / 8 % 2);
                }
            }
        }
    }

    private static void fortyRuns() {
        ProcessingMemory x = Checks.with("banks 1 rows 1 columns 1; batch 0: set 0 1; end;"
                + "batch 0: set 1 1; end; batch 0: set 2 1; end;");
        for (int runs = 1; runs <= 85; runs++) {
            Checks.runAll(x, (runs - 1) % 3);
            if (runs == 1 || runs % 40 <= 2 || runs % 40 == 39) {
                dueKept(x, runs);
            }
        }
        for (int run = 45; run < 85; run++) {
            due("24: batch", x.runOf(run, 0), run % 3);
        }
    }

    private static void dueKept(ProcessingMemory x, int runs) {
        int oldest = Math.max(0, runs - 40);
        due("24: the oldest of " + runs, x.runOf(oldest, 1), oldest);
        due("24: the latest of " + runs, x.runOf(runs - 1, 0), (runs - 1) % 3);
        CHECKS.dueThrow("24: too old", Checks.INDEX, () -> x.runOf(oldest - 1, 0));
        CHECKS.dueThrow("24: too new", Checks.INDEX, () -> x.runOf(runs, 0));
    }
}
