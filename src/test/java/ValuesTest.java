/** Promises 10 to 12, and what the commands do to words and lanes. */
public final class ValuesTest {
    private static final Checks CHECKS = new Checks();

    public static void main(String[] args) {
        memoryAndFill();
        fillAndCoherence();
        registers();
        wrongPlaces();
        operations();
        wrapping();
        lanes();
        reductions();
        broadcast();
        sameRegisters();
        CHECKS.end();
    }

    private static void due(String name, Object got, Object want) {
        CHECKS.due(name, got, want);
    }

    private static void dueRow(String name, ProcessingMemory x, int bank, int row, int... want) {
        for (int column = 0; column < want.length; column++) {
            due(name + ", column " + column, x.memory(bank, row, column), want[column]);
        }
    }

    private static void dueRegister(
            String name, ProcessingMemory x, int bank, int register, int... want) {
        for (int lane = 0; lane < want.length; lane++) {
            due(name + ", lane " + lane, x.register(bank, register, lane), want[lane]);
        }
    }

    private static void memoryAndFill() {
        ProcessingMemory x = Checks.with("banks 8 rows 16 columns 8;");
        due("11: last word", x.fill(7, 15, 3, -2), -11);
        dueRow("10: row", x, 7, 15, 3, 1, -1, -3, -5, -7, -9, -11);
        dueRow("10: row before", x, 7, 14, 0, 0, 0, 0, 0, 0, 0, 0);
        dueRow("10: bank before", x, 6, 15, 0, 0, 0, 0, 0, 0, 0, 0);
        due("11: wraps", x.fill(0, 0, Integer.MAX_VALUE, 1), Integer.MIN_VALUE + 6);
        due("10: wraps", x.memory(0, 0, 1), Integer.MIN_VALUE);
        due("11: great step", x.fill(0, 1, 1, Integer.MIN_VALUE), 1 + 7 * Integer.MIN_VALUE);
        ProcessingMemory y = Checks.with("banks 1 rows 1 columns 1;");
        due("11: one column", y.fill(0, 0, 9, 5), 9);
    }

    private static void fillAndCoherence() {
        ProcessingMemory x = Checks.with("banks 1 rows 2 columns 2;");
        x.hostWrite(0, 0, 0, 5);
        x.fill(0, 0, 1, 1);
        due("11: manual, the line stays", x.line(0, 0), 6);
        due("10: whatever the cache contains", x.memory(0, 0, 0), 1);
        due("11: the host reads the line", x.hostRead(0, 0, 0), 5);
        x.setCoherence(true);
        x.hostWrite(0, 1, 0, 6);
        x.fill(0, 0, 2, 1);
        due("11: automatic, the line is removed", x.line(0, 0), 0);
        due("11: it is not written back", x.memory(0, 0, 0), 2);
        due("11: nothing was written back", x.cache(2), 0);
        due("11: another line stays", x.line(0, 1), 6);
        due("11: no line to remove", x.fill(0, 0, 4, 4), 8);
    }

    private static void registers() {
        ProcessingMemory x = Checks.with("banks 2 rows 2 columns 3; batch 1: load 3 1; end;"
                + "batch 1: set 2 - 7; store 2 0; end; batch 0 1: load 1 1; store 1 0; end;");
        x.fill(1, 1, 4, 4);
        x.fill(0, 1, 1, 1);
        Checks.runAll(x, 0);
        dueRegister("12: loaded", x, 1, 3, 4, 8, 12);
        dueRegister("12: not loaded", x, 0, 3, 0, 0, 0);
        x.fill(1, 1, 0, 0);
        dueRegister("12: a copy", x, 1, 3, 4, 8, 12);
        Checks.runAll(x, 1);
        dueRegister("12: set", x, 1, 2, -7, -7, -7);
        dueRow("12: stored", x, 1, 0, -7, -7, -7);
        Checks.runAll(x, 2);
        dueRow("12: bank 0", x, 0, 0, 1, 2, 3);
        dueRow("12: bank 1", x, 1, 0, 0, 0, 0);
    }

    private static void wrongPlaces() {
        ProcessingMemory x = Checks.with("banks 2 rows 5 columns 3;");
        int[][] wrong = {
            {-1, 0, 0}, {2, 0, 0}, {0, -1, 0}, {0, 5, 0}, {0, 0, -1}, {0, 0, 3},
            {Integer.MIN_VALUE, 0, 0}, {0, Integer.MAX_VALUE, 0}, {0, 0, Integer.MIN_VALUE},
        };
        for (int[] w : wrong) {
            CHECKS.dueThrow("10: memory", Checks.INDEX, () -> x.memory(w[0], w[1], w[2]));
            if (w[2] == 0) {
                CHECKS.dueThrow("11: fill", Checks.INDEX, () -> x.fill(w[0], w[1], 1, 1));
            }
        }
        int[][] wrongRegisters = {
            {-1, 0, 0}, {2, 0, 0}, {0, -1, 0}, {0, 4, 0}, {0, 0, -1}, {0, 0, 3},
        };
        for (int[] w : wrongRegisters) {
            CHECKS.dueThrow("12: register", Checks.INDEX, () -> x.register(w[0], w[1], w[2]));
        }
        due("10: the last one", x.memory(1, 4, 2), 0);
        due("12: the last one", x.register(1, 3, 2), 0);
    }

    private static void operations() {
        String[] names = {"add", "sub", "mul", "min", "max", "and", "or", "xor"};
        int[][] want = {
            {9, 6, 3}, {3, -4, -11}, {18, 5, -28}, {3, 1, -4}, {6, 5, 7}, {2, 1, 4}, {7, 5, -1},
            {5, 4, -5},
        };
        for (int i = 0; i < names.length; i++) {
            ProcessingMemory x = Checks.with("banks 1 rows 2 columns 3; batch 0:"
                    + "load 0 0; load 1 1;" + names[i] + " 2 0 1; end;");
            x.fill(0, 0, 6, -5);
            x.fill(0, 1, 3, 2);
            Checks.runAll(x, 0);
            dueRegister(names[i], x, 0, 2, want[i]);
            dueRegister(names[i] + " leaves a", x, 0, 0, 6, 1, -4);
            dueRegister(names[i] + " leaves b", x, 0, 1, 3, 5, 7);
        }
    }

    private static void wrapping() {
        ProcessingMemory x = Checks.with("banks 1 rows 2 columns 2; batch 0: load 0 0; load 1 1;"
                + "add 2 0 1; mul 3 0 0; end; batch 0: sub 2 1 0; end;");
        x.fill(0, 0, Integer.MAX_VALUE, 65537 - Integer.MAX_VALUE);
        x.fill(0, 1, 1, -3);
        Checks.runAll(x, 0);
        dueRegister("add wraps", x, 0, 2, Integer.MIN_VALUE, 65535);
        dueRegister("mul wraps", x, 0, 3, 1, 131073);
        Checks.runAll(x, 1);
        dueRegister("sub wraps", x, 0, 2, -2147483646, -65539);
    }

    private static void lanes() {
        String[] names = {"add", "mul", "min", "max", "and", "or", "xor"};
        int[] want = {3, -24, -4, 6, 0, -1, -5};
        for (int i = 0; i < names.length; i++) {
            ProcessingMemory x = Checks.with("banks 2 rows 1 columns 3; batch 0:"
                    + "load 3 0; lanes " + names[i] + " 3; end;");
            x.fill(0, 0, 6, -5);
            Checks.runAll(x, 0);
            dueRegister("lanes " + names[i], x, 0, 3, want[i], 1, -4);
        }
        ProcessingMemory y = Checks.with("banks 1 rows 1 columns 1; batch 0:"
                + "set 0 5; lanes mul 0; end;");
        Checks.runAll(y, 0);
        dueRegister("lanes of one column", y, 0, 0, 5);
    }

    private static void reductions() {
        String[] names = {"add", "mul", "min", "max", "and", "or", "xor"};
        int[][] want = {
            {13, -8}, {60, -48}, {2, -12}, {6, 2}, {0, 0}, {7, -10}, {1, -12},
        };
        for (int i = 0; i < names.length; i++) {
            // Bank 2 does not take part; the lowest bank is not named first.
            ProcessingMemory x = Checks.with("banks 5 rows 1 columns 2;"
                    + "batch 4 1 3: load 1 0; reduce " + names[i] + " 1; end;");
            x.fill(1, 0, 6, -4);
            x.fill(3, 0, 5, -17);
            x.fill(4, 0, 2, 0);
            x.fill(2, 0, 100, 100);
            Checks.runAll(x, 0);
            dueRegister("reduce " + names[i], x, 1, 1, want[i]);
            dueRegister("reduce leaves bank 3", x, 3, 1, 5, -12);
            dueRegister("reduce leaves bank 4", x, 4, 1, 2, 2);
            dueRegister("reduce leaves bank 2", x, 2, 1, 0, 0);
        }
        ProcessingMemory y = Checks.with("banks 2 rows 1 columns 1;"
                + "batch 1: set 0 5; reduce mul 0; end;");
        Checks.runAll(y, 0);
        dueRegister("reduce of one bank", y, 1, 0, 5);
    }

    private static void broadcast() {
        ProcessingMemory x = Checks.with("banks 4 rows 1 columns 2;"
                + "batch 0 1 2 3: load 2 0; end; batch 3 1: broadcast 2; end;");
        for (int bank = 0; bank < 4; bank++) {
            x.fill(bank, 0, bank, 10);
        }
        Checks.runAll(x, 0, 1);
        dueRegister("broadcast leaves bank 0", x, 0, 2, 0, 10);
        dueRegister("broadcast from bank 1", x, 1, 2, 1, 11);
        dueRegister("broadcast leaves bank 2", x, 2, 2, 2, 12);
        dueRegister("broadcast to bank 3", x, 3, 2, 1, 11);
    }

    private static void sameRegisters() {
        ProcessingMemory x = Checks.with("banks 1 rows 1 columns 2; batch 0: load 0 0;"
                + "set 1 10; sub 1 1 0; sub 0 0 0; mul 1 1 1; end;");
        x.fill(0, 0, 3, 4);
        Checks.runAll(x, 0);
        dueRegister("d is a", x, 0, 1, 49, 9);
        dueRegister("d is a and b", x, 0, 0, 0, 0);
    }
}
