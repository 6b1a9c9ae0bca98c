/** Promises 25 to 30: clocks, ready times, open rows, stalls, the finish and the utilization. */
public final class TimesTest {
    private static final Checks CHECKS = new Checks();

    public static void main(String[] args) {
        computing();
        hazards();
        lanesByColumns();
        rows();
        budget();
        budgetOfOne();
        openRowOfEachBank();
        joint();
        reduceByBanks();
        oneBankAlone();
        settings();
        utilization();
        wrongArguments();
        CHECKS.end();
    }

    private static void due(String name, Object got, Object want) {
        CHECKS.due(name, got, want);
    }

    /** Checks clock, ready times and the four kinds of stalls of a bank. */
    private static void dueBank(
            String name, ProcessingMemory x, int bank, int clock, int[] ready, int[] stalls) {
        due("25: " + name + ", clock of " + bank, x.clock(bank), clock);
        for (int i = 0; i < 4; i++) {
            due("26: " + name + ", ready " + i + " of " + bank, x.ready(bank, i), ready[i]);
            due("28: " + name + ", stalls " + i + " of " + bank, x.stalls(bank, i), stalls[i]);
        }
    }

    private static int[] four(int... values) {
        return values;
    }

    private static ProcessingMemory ran(String text) {
        ProcessingMemory x = Checks.with(text);
        Checks.runAll(x, 0);
        return x;
    }

    private static void computing() {
        ProcessingMemory x = ran("banks 2 rows 1 columns 3; batch 0:"
                + "set 0 5; add 1 0 0; mul 2 1 1; lanes add 2; end;");
        // set 0..1; add 1..3; mul waits for 3, ..8; lanes waits for 8, two steps of 2.
        dueBank("computing", x, 0, 9, four(1, 3, 12, 0), four(5, 0, 0, 0));
        dueBank("the other bank", x, 1, 0, four(0, 0, 0, 0), four(0, 0, 0, 0));
        due("29: ready time", x.finish(), 12);
        due("27: none", x.openRow(0), ProcessingMemory.NONE);
        due("24: end", x.runOf(0, 2), 12);
    }

    private static void hazards() {
        ProcessingMemory x = ran("banks 1 rows 1 columns 1; batch 0: mul 0 1 1; set 0 1; end;");
        dueBank("set waits for d", x, 0, 6, four(6, 0, 0, 0), four(4, 0, 0, 0));
        x = ran("banks 1 rows 1 columns 1; batch 0: mul 0 1 1; add 0 1 1; end;");
        dueBank("OP waits for d", x, 0, 6, four(7, 0, 0, 0), four(4, 0, 0, 0));
        x = ran("banks 1 rows 1 columns 1; batch 0: mul 0 1 1; sub 2 0 1; end;");
        dueBank("OP waits for a", x, 0, 6, four(5, 0, 7, 0), four(4, 0, 0, 0));
        x = ran("banks 1 rows 1 columns 1; batch 0: mul 0 1 1; xor 2 1 0; end;");
        dueBank("OP waits for b", x, 0, 6, four(5, 0, 7, 0), four(4, 0, 0, 0));
        x = ran("banks 1 rows 1 columns 1; batch 0: mul 0 1 1; set 1 1; end;");
        dueBank("nothing waits for a register that is read", x, 0, 2, four(5, 2, 0, 0),
                four(0, 0, 0, 0));
        x = ran("banks 1 rows 1 columns 1; batch 0: mul 0 1 1; load 0 0; end;");
        dueBank("load waits", x, 0, 16, four(19, 0, 0, 0), four(4, 10, 0, 0));
        x = ran("banks 1 rows 1 columns 1; batch 0: mul 0 1 1; store 0 0; end;");
        dueBank("store waits", x, 0, 19, four(5, 0, 0, 0), four(4, 10, 0, 0));
        for (String other : new String[] {"add", "sub", "min", "max", "and", "or", "xor"}) {
            x = ran("banks 1 rows 1 columns 1; batch 0: " + other + " 3 1 1; end;");
            dueBank(other, x, 0, 1, four(0, 0, 0, 2), four(0, 0, 0, 0));
        }
    }

    private static void lanesByColumns() {
        int[] steps = {0, 0, 1, 2, 2, 3, 3, 3, 3};
        for (int columns = 1; columns <= 8; columns++) {
            ProcessingMemory x = ran("banks 1 rows 1 columns " + columns
                    + "; batch 0: lanes mul 0; lanes or 1; end;");
            int[] ready = four(5 * steps[columns], 1 + 2 * steps[columns], 0, 0);
            dueBank("lanes of " + columns, x, 0, 2, ready, four(0, 0, 0, 0));
        }
    }

    private static void rows() {
        ProcessingMemory x = ran("banks 1 rows 2 columns 1; batch 0:"
                + "load 0 0; load 1 0; store 0 1; load 2 0; end;");
        // Activation 0..10, load ..14; load 11..15; store waits for 14, activation ..24, ..28;
        // activation 28..38, load ..42.
        dueBank("rows", x, 0, 39, four(14, 15, 42, 0), four(2, 30, 0, 0));
        due("27: open", x.openRow(0), 0);
        due("29: finish", x.finish(), 42);
        x = ran("banks 1 rows 2 columns 1; batch 0: store 3 1; end;");
        due("27: opened by store", x.openRow(0), 1);
        dueBank("store", x, 0, 14, four(0, 0, 0, 0), four(0, 10, 0, 0));
        x.submit(0);
        x.run(1);
        dueBank("open still", x, 0, 18, four(0, 0, 0, 0), four(0, 10, 0, 0));
    }

    private static void budget() {
        ProcessingMemory x = ran("banks 1 rows 2 columns 1; budget 2; batch 0:"
                + "load 0 0; load 1 1; load 2 0; load 3 1; end;");
        // Starts 0, 11, then 50 instead of 22, then 61, which is 11 + 50.
        dueBank("budget 2", x, 0, 72, four(14, 25, 64, 75), four(0, 40, 28, 0));
        Checks.runAll(x, 0);
        // Starts 100 instead of 72, 111, 150 instead of 122, 161: 28 ticks of waiting twice more.
        dueBank("budget 2 again", x, 0, 172, four(114, 125, 164, 175), four(0, 80, 84, 0));
        x = ran("banks 1 rows 2 columns 1; batch 0: load 0 0; load 1 1; load 2 0; load 3 1;"
                + "load 0 0; end;");
        // The budget of four is first exceeded by the fifth activation: 50 instead of 44.
        dueBank("budget 4", x, 0, 61, four(64, 25, 36, 47), four(0, 50, 6, 0));
    }

    private static void budgetOfOne() {
        ProcessingMemory x = ran("banks 2 rows 2 columns 1; budget 1; window 30; batch 0 1:"
                + "load 0 0; set 1 1; load 0 1; end;");
        // The second load waits for 14, and its activation for 30.
        for (int bank = 0; bank < 2; bank++) {
            dueBank("budget 1", x, bank, 41, four(44, 12, 0, 0), four(2, 20, 16, 0));
        }
        x = ran("banks 1 rows 2 columns 1; budget 1; window 1; batch 0:"
                + "load 0 0; load 1 1; end;");
        dueBank("window 1", x, 0, 22, four(14, 25, 0, 0), four(0, 20, 0, 0));
    }

    private static void openRowOfEachBank() {
        ProcessingMemory x = Checks.with("banks 2 rows 3 columns 1;"
                + "batch 1: load 0 2; end; batch 0 1: load 1 2; end;");
        Checks.runAll(x, 0);
        due("27: bank 0", x.openRow(0), -1);
        due("27: bank 1", x.openRow(1), 2);
        Checks.runAll(x, 1);
        due("27: bank 0 then", x.openRow(0), 2);
        dueBank("opens", x, 0, 11, four(0, 14, 0, 0), four(0, 10, 0, 0));
        dueBank("is open", x, 1, 12, four(14, 15, 0, 0), four(0, 10, 0, 0));
        due("24: begin is the least clock", x.runOf(1, 1), 0);
        due("24: end is the greatest ready time", x.runOf(1, 2), 15);
    }

    private static void joint() {
        ProcessingMemory x = Checks.with("banks 4 rows 1 columns 1;"
                + "batch 1: set 0 7; mul 0 0 0; end; batch 2 0 1: reduce add 0; end;"
                + "batch 2 0 1: broadcast 0; end; batch 2: mul 3 3 3; end;"
                + "batch 0 2: barrier; end;");
        Checks.runAll(x, 0, 1);
        // The registers meet at 6; three banks take two steps of 3.
        dueBank("reduce", x, 0, 12, four(12, 0, 0, 0), four(0, 0, 0, 6));
        dueBank("reduce", x, 1, 12, four(6, 0, 0, 0), four(0, 0, 0, 4));
        dueBank("reduce", x, 2, 12, four(0, 0, 0, 0), four(0, 0, 0, 6));
        due("24: begin", x.runOf(1, 1), 0);
        due("24: end", x.runOf(1, 2), 12);
        Checks.runAll(x, 2);
        dueBank("broadcast", x, 0, 18, four(18, 0, 0, 0), four(0, 0, 0, 6));
        dueBank("broadcast", x, 1, 18, four(18, 0, 0, 0), four(0, 0, 0, 4));
        dueBank("broadcast", x, 2, 18, four(18, 0, 0, 0), four(0, 0, 0, 6));
        Checks.runAll(x, 3, 4);
        dueBank("barrier", x, 0, 23, four(18, 0, 0, 0), four(0, 0, 0, 11));
        dueBank("barrier", x, 1, 18, four(18, 0, 0, 0), four(0, 0, 0, 4));
        dueBank("barrier", x, 2, 23, four(18, 0, 0, 23), four(0, 0, 0, 10));
        dueBank("no part", x, 3, 0, four(0, 0, 0, 0), four(0, 0, 0, 0));
        x = ran("banks 2 rows 1 columns 1; batch 0 1: mul 3 3 3; reduce max 2; end;");
        dueBank("reduce waits for its register alone", x, 0, 4, four(0, 0, 4, 5), four(0, 0, 0, 0));
        x = ran("banks 2 rows 1 columns 1; batch 0 1: mul 3 3 3; broadcast 2; end;");
        dueBank("broadcast waits for its register alone", x, 1, 7, four(0, 0, 7, 5),
                four(0, 0, 0, 0));
        x = ran("banks 2 rows 1 columns 1; batch 1 0: mul 3 3 3; broadcast 3; end;");
        dueBank("broadcast waits", x, 1, 11, four(0, 0, 0, 11), four(0, 0, 0, 4));
    }

    private static void reduceByBanks() {
        int[] steps = {0, 0, 1, 2, 2, 3, 3, 3, 3};
        StringBuilder list = new StringBuilder();
        for (int banks = 1; banks <= 8; banks++) {
            list.append(" ").append(banks - 1);
            ProcessingMemory x = ran("banks 8 rows 1 columns 1; reduce 7; batch" + list
                    + ": reduce mul 1; end;");
            int end = 7 * steps[banks];
            dueBank("lowest of " + banks, x, 0, end, four(0, end, 0, 0), four(0, 0, 0, 0));
            if (banks > 1) {
                dueBank("highest", x, banks - 1, end, four(0, 0, 0, 0), four(0, 0, 0, 0));
            }
        }
    }

    private static void oneBankAlone() {
        ProcessingMemory x = ran("banks 1 rows 1 columns 1; batch 0:"
                + "mul 0 0 0; reduce add 0; mul 1 1 1; broadcast 2; barrier; end;");
        // mul 0..5; reduce meets at 5 and takes nothing; mul 5..10; broadcast 6..12; barrier 12.
        dueBank("one bank", x, 0, 12, four(5, 10, 12, 0), four(0, 0, 0, 4));
        ProcessingMemory y = ran("banks 1 rows 1 columns 1; batch 0: mul 0 0 0; barrier; end;");
        dueBank("barrier of one bank", y, 0, 5, four(5, 0, 0, 0), four(0, 0, 0, 4));
    }

    private static void settings() {
        ProcessingMemory x = ran("banks 2 rows 2 columns 2; activate 20; access 7; compute 3;"
                + "multiply 11; reduce 13; transfer 17; window 1000; budget 1; batch 0 1:"
                + "load 0 0; add 1 1 1; mul 2 2 2; lanes add 3; store 3 0; reduce or 3;"
                + "broadcast 3; load 0 1; end;");
        // load 20..27; add 21..24; mul 22..33; lanes 23..26; store waits for 26, ..33;
        // reduce 33..46; broadcast 46..63; activation at 1000.
        dueBank("settings", x, 0, 1021, four(1027, 24, 33, 63), four(2, 40, 937, 0));
        due("29: finish", x.finish(), 1027);
    }

    private static void utilization() {
        ProcessingMemory x = Checks.with("banks 3 rows 1 columns 1;"
                + "batch 0 1: set 0 1; barrier; reduce add 0; end; batch 0: mul 0 0 0; end;"
                + "batch 0 1: barrier; end;");
        CHECKS.dueThrow("30: nothing was run", Checks.STATE, () -> x.utilization(0));
        CHECKS.dueThrow("30: the first exception", Checks.INDEX, () -> x.utilization(3));
        Checks.runAll(x, 2);
        CHECKS.dueThrow("30: the finish is 0 still", Checks.STATE, () -> x.utilization(0));
        Checks.runAll(x, 0, 1);
        // set ..1, barrier 1, reduce ..4, mul ..9.
        due("29: finish", x.finish(), 9);
        due("30: bank 0", x.utilization(0), 5 / 9.0);
        due("30: bank 1", x.utilization(1), 4 / 9.0);
        due("30: bank 2", x.utilization(2), 0.0);
        CHECKS.dueThrow("30: bank", Checks.INDEX, () -> x.utilization(-1));
        CHECKS.dueThrow("30: bank", Checks.INDEX, () -> x.utilization(3));
    }

    private static void wrongArguments() {
        ProcessingMemory x = Checks.with("banks 3 rows 1 columns 1;");
        for (int bank : new int[] {-1, 3, 8, Integer.MIN_VALUE, Integer.MAX_VALUE}) {
            CHECKS.dueThrow("25", Checks.INDEX, () -> x.clock(bank));
            CHECKS.dueThrow("26", Checks.INDEX, () -> x.ready(bank, 0));
            CHECKS.dueThrow("27", Checks.INDEX, () -> x.openRow(bank));
            CHECKS.dueThrow("28", Checks.INDEX, () -> x.stalls(bank, 0));
            CHECKS.dueThrow("28: the first exception", Checks.INDEX, () -> x.stalls(bank, 4));
        }
        for (int other : new int[] {-1, 4, Integer.MIN_VALUE, Integer.MAX_VALUE}) {
            CHECKS.dueThrow("26", Checks.INDEX, () -> x.ready(0, other));
            CHECKS.dueThrow("28", Checks.ARGUMENT, () -> x.stalls(2, other));
        }
    }
}
