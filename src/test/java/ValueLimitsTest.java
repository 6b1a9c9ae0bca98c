/** The boundary cases of 'MEMORY' and 'VALUES': first values, wrap-around, first and last places. */
public final class ValueLimitsTest {
    private static final Checks CHECKS = new Checks();
    private static final int LEAST = Integer.MIN_VALUE;
    private static final int MOST = Integer.MAX_VALUE;
    private static final int REGISTERS = 4;

    public static void main(String[] args) {
        zeroAtFirst();
        everyWordIsApart();
        fillWraps();
        numbersOfSet();
        operationsWrap();
        lanesWrap();
        reductionsWrap();
        everyLane();
        everyBank();
        oneBankAlone();
        onlyTheTargetChanges();
        CHECKS.end();
    }

    private static void due(String name, Object got, Object want) {
        CHECKS.due(name, got, want);
    }

    private static void zeroAtFirst() {
        for (int bank = 0; bank < 8; bank++) {
            ProcessingMemory x = Checks.with("banks 8 rows 16 columns 8;");
            for (int column = 0; column < 8; column++) {
                for (int row = 0; row < 16; row++) {
                    due("words are 0 at first", x.memory(bank, row, column), 0);
                }
                for (int register = 0; register < REGISTERS; register++) {
                    due("lanes are 0 at first", x.register(bank, register, column), 0);
                }
            }
        }
    }

    private static void everyWordIsApart() {
        ProcessingMemory x = Checks.with("banks 8 rows 16 columns 8;");
        for (int bank = 0; bank < 8; bank++) {
            for (int row = 0; row < 16; row++) {
                x.fill(bank, row, 100 * (16 * bank + row), 1);
            }
        }
        for (int bank = 0; bank < 8; bank += 7) {
            for (int row = 0; row < 16; row++) {
                for (int column = 0; column < 8; column++) {
                    due("10: a word of its own", x.memory(bank, row, column),
                            100 * (16 * bank + row) + column);
                }
            }
        }
    }

    private static void fillWraps() {
        int[][] cases = {
            {MOST, 1}, {LEAST, -1}, {MOST, MOST}, {LEAST, LEAST}, {0, MOST}, {-1, LEAST}, {5, 0},
        };
        for (int columns = 1; columns <= 8; columns++) {
            ProcessingMemory x = Checks.with("banks 1 rows 1 columns " + columns + ";");
            for (int[] c : cases) {
                due("11: the last word", x.fill(0, 0, c[0], c[1]), c[0] + (columns - 1) * c[1]);
                for (int column = 0; column < columns; column++) {
                    due("11: a word", x.memory(0, 0, column), c[0] + column * c[1]);
                }
            }
        }
    }

    private static void numbersOfSet() {
        String[] numbers = {"0", "-0", "1", "-1", "999999", "-999999", "000007", "- 000007"};
        int[] want = {0, 0, 1, -1, 999999, -999999, 7, -7};
        for (int i = 0; i < numbers.length; i++) {
            ProcessingMemory x = Checks.with("banks 1 rows 1 columns 8; batch 0: set 3 "
                    + numbers[i] + "; end;");
            Checks.runAll(x, 0);
            due("set " + numbers[i], x.register(0, 3, 0), want[i]);
            due("set " + numbers[i] + ", the last lane", x.register(0, 3, 7), want[i]);
        }
    }

    /** Runs a command with two values in registers 0 and 1 and returns register 2. */
    private static int combined(String name, int left, int right) {
        ProcessingMemory x = Checks.with("banks 1 rows 2 columns 1; batch 0: load 0 0; load 1 1; "
                + name + " 2 0 1; end;");
        x.fill(0, 0, left, 0);
        x.fill(0, 1, right, 0);
        Checks.runAll(x, 0);
        return x.register(0, 2, 0);
    }

    private static void operationsWrap() {
        due("add", combined("add", MOST, 1), LEAST);
        due("add", combined("add", LEAST, -1), MOST);
        due("add", combined("add", MOST, MOST), -2);
        due("add", combined("add", LEAST, LEAST), 0);
        due("sub", combined("sub", LEAST, 1), MOST);
        due("sub", combined("sub", MOST, -1), LEAST);
        due("sub", combined("sub", 0, LEAST), LEAST);
        due("sub", combined("sub", MOST, LEAST), -1);
        due("mul", combined("mul", LEAST, -1), LEAST);
        due("mul", combined("mul", MOST, MOST), 1);
        due("mul", combined("mul", MOST, 2), -2);
        due("mul", combined("mul", 65536, 65536), 0);
        // Their difference wraps around, so that it does not tell which is less.
        due("min", combined("min", LEAST, MOST), LEAST);
        due("min", combined("min", MOST, LEAST), LEAST);
        due("min", combined("min", -2, MOST), -2);
        due("min", combined("min", 4, 4), 4);
        due("max", combined("max", LEAST, MOST), MOST);
        due("max", combined("max", MOST, LEAST), MOST);
        due("max", combined("max", LEAST, 1), 1);
        due("max", combined("max", LEAST, LEAST), LEAST);
        due("and", combined("and", -1, LEAST), LEAST);
        due("or", combined("or", MOST, LEAST), -1);
        due("xor", combined("xor", -1, LEAST), MOST);
    }

    private static void lanesWrap() {
        String[] names = {"add", "mul", "min", "max"};
        int[] wantSame = {-2, 1, MOST, MOST};
        int[] wantOther = {-1, MOST * LEAST, LEAST, MOST};
        for (int i = 0; i < names.length; i++) {
            ProcessingMemory x = Checks.with("banks 1 rows 2 columns 2; batch 0: load 0 0;"
                    + "load 1 1; lanes " + names[i] + " 0; lanes " + names[i] + " 1; end;");
            x.fill(0, 0, MOST, 0);
            x.fill(0, 1, MOST, 1);
            Checks.runAll(x, 0);
            due("lanes " + names[i], x.register(0, 0, 0), wantSame[i]);
            due("lanes " + names[i], x.register(0, 1, 0), wantOther[i]);
            due("the other lane stays", x.register(0, 1, 1), LEAST);
        }
    }

    private static void reductionsWrap() {
        String[] names = {"add", "mul", "min", "max"};
        int[] want = {-1, MOST * LEAST, LEAST, MOST};
        for (int i = 0; i < names.length; i++) {
            ProcessingMemory x = Checks.with("banks 2 rows 1 columns 1; batch 0 1: load 0 0;"
                    + "reduce " + names[i] + " 0; end;");
            x.fill(0, 0, MOST, 0);
            x.fill(1, 0, LEAST, 0);
            Checks.runAll(x, 0);
            due("reduce " + names[i], x.register(0, 0, 0), want[i]);
            due("the other bank stays", x.register(1, 0, 0), LEAST);
        }
    }

    private static void everyLane() {
        for (int columns = 1; columns <= 8; columns++) {
            ProcessingMemory x = Checks.with("banks 1 rows 1 columns " + columns + "; batch 0:"
                    + "load 0 0; add 1 0 0; load 3 0; lanes add 3; end;");
            x.fill(0, 0, 10, 10);
            Checks.runAll(x, 0);
            int sum = 0;
            for (int lane = 0; lane < columns; lane++) {
                sum += 10 + 10 * lane;
                due("load to lane " + lane, x.register(0, 0, lane), 10 + 10 * lane);
                due("add in lane " + lane, x.register(0, 1, lane), 20 + 20 * lane);
                due("lanes of " + columns, x.register(0, 3, lane),
                        lane == 0 ? 10 * columns * (columns + 1) / 2 : 10 + 10 * lane);
            }
            due("lanes of " + columns, x.register(0, 3, 0), sum);
        }
    }

    private static void everyBank() {
        StringBuilder list = new StringBuilder();
        for (int banks = 1; banks <= 8; banks++) {
            // The banks from the last one on, so that the lowest one is named last.
            list.append(" ").append(8 - banks);
            ProcessingMemory x = Checks.with("banks 8 rows 1 columns 2; batch" + list
                    + ": load 1 0; reduce add 1; end; batch" + list + ": broadcast 1; end;");
            for (int bank = 0; bank < 8; bank++) {
                x.fill(bank, 0, 1 << bank, 1);
            }
            Checks.runAll(x, 0);
            int lowest = 8 - banks;
            int sum = 256 - (1 << lowest);
            due("reduce of " + banks, x.register(lowest, 1, 0), sum);
            due("reduce of " + banks + ", lane 1", x.register(lowest, 1, 1), sum + banks);
            for (int bank = 0; bank < 8; bank++) {
                int want = bank < lowest ? 0 : bank == lowest ? sum : 1 << bank;
                due("reduce, bank " + bank, x.register(bank, 1, 0), want);
            }
            Checks.runAll(x, 1);
            for (int bank = 0; bank < 8; bank++) {
                due("broadcast, bank " + bank, x.register(bank, 1, 0), bank < lowest ? 0 : sum);
            }
        }
    }

    private static void oneBankAlone() {
        for (int bank = 0; bank < 8; bank++) {
            ProcessingMemory x = Checks.with("banks 8 rows 1 columns 2; batch " + bank
                    + ": load 2 0; reduce mul 2; broadcast 2; end;");
            x.fill(bank, 0, 3, 4);
            Checks.runAll(x, 0);
            for (int other = 0; other < 8; other++) {
                due("bank " + bank + " alone", x.register(other, 2, 0), other == bank ? 3 : 0);
                due("bank " + bank + " alone", x.register(other, 2, 1), other == bank ? 7 : 0);
            }
        }
    }

    private static void onlyTheTargetChanges() {
        String[] commands = {
            "set # 5", "load # 1", "add # 0 3", "sub # 2 1", "lanes add #", "store # 1",
        };
        for (int columns = 1; columns <= 8; columns += 7) {
            for (String command : commands) {
                for (int register = 0; register < REGISTERS; register++) {
                    for (int bank = 0; bank < 3; bank++) {
                        dueNeighbours(command.replace("#", "" + register), register, bank, columns);
                    }
                }
            }
        }
    }

    private static void dueNeighbours(String command, int register, int bank, int columns) {
        ProcessingMemory x = Checks.with("banks 3 rows 3 columns " + columns
                + "; batch 0 1 2: load 0 0; load 1 1; load 2 2; sub 3 2 0; end; batch " + bank + ":"
                + command + "; end;");
        for (int b = 0; b < 3; b++) {
            for (int row = 0; row < 3; row++) {
                x.fill(b, row, 1000 * b + 100 * row * row + 11, 1);
            }
        }
        Checks.runAll(x, 0);
        int[] before = lanesAndWords(x, columns);
        Checks.runAll(x, 1);
        int[] after = lanesAndWords(x, columns);
        // A store changes row 1 of its bank, all others change a register.
        int first = 7 * bank + (command.startsWith("store") ? REGISTERS + 1 : register);
        for (int i = 0; i < before.length; i++) {
            if (i / columns != first) {
                due(command + " of bank " + bank + " leaves " + i, after[i], before[i]);
            }
        }
    }

    /** For each bank its registers and then its rows. */
    private static int[] lanesAndWords(ProcessingMemory x, int columns) {
        int[] all = new int[3 * 7 * columns];
        int at = 0;
        for (int bank = 0; bank < 3; bank++) {
            for (int i = 0; i < 7; i++) {
                for (int column = 0; column < columns; column++) {
                    all[at++] = i < REGISTERS
                            ? x.register(bank, i, column)
                            : x.memory(bank, i - REGISTERS, column);
                }
            }
        }
        return all;
    }
}
