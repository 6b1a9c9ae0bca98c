import java.lang.reflect.InvocationTargetException;
import java.lang.reflect.Method;
import java.nio.charset.StandardCharsets;
import java.util.ArrayList;
import java.util.Arrays;
import java.util.HashMap;
import java.util.List;
import java.util.Map;
import java.util.Random;

/**
 * Compares the class with ReferenceModel over runs of at most 512 calls. The seeds are fixed; a
 * number and a first seed as arguments ask for other runs.
 */
public final class RandomTest {
    private static final int MOST_CALLS = 512;

    // Every call but those that bring a text: its name and the kinds of its arguments.
    private static final String[] CALLS = {
        "errorCode", "errorPosition", "count what7", "commands batch", "banks batch",
        "memory bank row column", "fill bank row value value", "register bank register column",
        "hostRead bank row column", "hostWrite bank row column value", "flush bank row",
        "flushAll", "invalidate bank row", "line bank row", "cache what3", "setCoherence truth",
        "submit batch", "queued position", "run number", "runOf run what3", "clock bank",
        "ready bank register", "openRow bank", "stalls bank what4", "finish", "utilization bank",
        "wouldFinish batch", "wouldBe bank register column", "isConflict batch batch",
        "longestChain", "bestFinish", "bestOrder position", "reorder", "budgetFor time",
        "save slot", "restore slot", "truncate length",
    };
    // These are called more often, so that the others have something to answer.
    private static final String[] FREQUENT = {
        "submit batch", "submit batch", "run number", "hostRead bank row column",
        "hostWrite bank row column value", "fill bank row value value", "line bank row",
    };
    // These are called more often in runs about the best order.
    private static final String[] PLANNING = {
        "submit batch", "submit batch", "submit batch", "submit batch", "bestOrder position",
        "bestOrder position", "bestFinish", "reorder", "run number",
    };
    private static final String[] ODD_TEXTS = {
        "0", "1", "3", "4", "8", "9", "16", "17", "999999", "1000000", "0000001", "000001", "-",
        ":", ";", "batch", "end", "reduce", "lanes", "set", "add", "sub", "cache", "budget", "x",
        "A", "\t", "\r", "\0", "\u00ff", " ", "\n", "barrier", "broadcast", "and", "or", ";;",
    };

    private final Random random;
    private final ProcessingMemory memory = new ProcessingMemory();
    private final ReferenceModel model = new ReferenceModel();
    private final List<String> log = new ArrayList<>();
    private final Map<String, Method> methods = new HashMap<>();
    private final Map<String, Method> modelMethods = new HashMap<>();
    // Whether each batch has a register of its own, so that many orders are allowed.
    private final boolean isPlanning;
    private String wrong = null;

    private RandomTest(long seed) {
        random = new Random(seed);
        isPlanning = random.nextInt(3) == 0;
        for (Method m : ProcessingMemory.class.getDeclaredMethods()) {
            methods.put(m.getName(), m);
        }
        for (Method m : ReferenceModel.class.getDeclaredMethods()) {
            if (!java.lang.reflect.Modifier.isPrivate(m.getModifiers())) {
                modelMethods.put(m.getName(), m);
            }
        }
    }

    public static void main(String[] args) {
        int number = args.length > 0 ? Integer.parseInt(args[0]) : 250;
        int first = args.length > 1 ? Integer.parseInt(args[1]) : 0;
        int wrongRuns = 0;
        for (int seed = first; seed < first + number; seed++) {
            RandomTest test = new RandomTest(seed);
            test.go();
            if (test.wrong != null) {
                wrongRuns++;
                System.out.println("seed " + seed + ": " + test.wrong);
                if (wrongRuns == 1) {
                    test.log.forEach(System.out::println);
                }
            }
        }
        System.out.println(number + " runs, " + wrongRuns + " of them wrong");
        System.exit(wrongRuns == 0 ? 0 : 1);
    }

    private void go() {
        if (random.nextInt(10) > 0) {
            bringText(program());
        }
        while (log.size() < MOST_CALLS - 60 && wrong == null) {
            int choice = random.nextInt(300);
            if (choice < 2) {
                bringText(program());
            } else if (choice < 6) {
                bringText(spoiled(program()));
            } else if (choice < 8) {
                both("append", value(), value(), value(), value(), value());
            } else {
                String[] frequent = isPlanning ? PLANNING : FREQUENT;
                String[] calls = random.nextInt(3) == 0 ? frequent : CALLS;
                String[] call = calls[random.nextInt(calls.length)].split(" ");
                Object[] arguments = new Object[call.length - 1];
                for (int i = 0; i < arguments.length; i++) {
                    arguments[i] = argument(call[i + 1]);
                }
                both(call[0], arguments);
            }
        }
    }

    private void both(String name, Object... arguments) {
        Object got = outcome(methods.get(name), memory, arguments);
        Object want = outcome(modelMethods.get(name), model, arguments);
        String call = name + Arrays.toString(arguments);
        log.add(call + " = " + got);
        if (wrong == null && !String.valueOf(got).equals(String.valueOf(want))) {
            wrong = call + " answered " + got + ", due is " + want;
        }
    }

    private static Object outcome(Method method, Object target, Object[] arguments) {
        try {
            return method.invoke(target, arguments);
        } catch (InvocationTargetException e) {
            return e.getCause().getClass();
        } catch (IllegalAccessException e) {
            throw new AssertionError(e);
        }
    }

    private int size(int what) {
        return model.count(what);
    }

    private Object argument(String kind) {
        return switch (kind) {
            case "bank" -> near(size(0));
            case "row" -> near(Math.min(size(1), 1 + random.nextInt(16)));
            case "column" -> near(size(2));
            case "register" -> near(4);
            case "batch" -> near(size(3));
            case "position" -> near(size(4));
            case "run" -> random.nextBoolean()
                    ? size(5) - 38 - random.nextInt(4) : near(size(5));
            case "what3" -> near(3);
            case "what4" -> near(4);
            case "what7" -> near(7);
            case "slot" -> near(2);
            case "number" -> random.nextInt(4) == 0 ? near(17) : 1 + random.nextInt(3);
            case "truth" -> random.nextBoolean();
            case "time" -> random.nextInt(20) == 0
                    ? value() : model.wouldFinish(-1) + random.nextInt(7) - 3;
            case "length" -> random.nextInt(2) == 0 ? 0 : random.nextInt(22) - 1;
            default -> value();
        };
    }

    /** A number below a size, and sometimes one that is not. */
    private int near(int size) {
        int choice = random.nextInt(40);
        if (choice == 0) {
            return -1;
        }
        if (choice == 1) {
            return size;
        }
        if (choice == 2) {
            return value();
        }
        return size <= 0 ? 0 : random.nextInt(size);
    }

    private int value() {
        int[] extremes = {
            0, 1, -1, Integer.MAX_VALUE, Integer.MIN_VALUE, 0x62616e6b, 0x20202020, 65536,
        };
        return switch (random.nextInt(3)) {
            case 0 -> extremes[random.nextInt(extremes.length)];
            case 1 -> random.nextInt();
            default -> random.nextInt(200) - 100;
        };
    }

    private void bringText(String text) {
        byte[] bytes = text.getBytes(StandardCharsets.ISO_8859_1);
        log.add("text: " + text);
        both("truncate", 0);
        byte[] padded = Arrays.copyOf(bytes, (bytes.length + 19) / 20 * 20);
        for (int i = 0; i < padded.length; i += 20) {
            both("append", Checks.word(padded, i), Checks.word(padded, i + 4),
                    Checks.word(padded, i + 8), Checks.word(padded, i + 12),
                    Checks.word(padded, i + 16));
        }
        both("truncate", bytes.length);
        both("load");
        both("errorCode");
        both("errorPosition");
    }

    private String blank() {
        return switch (random.nextInt(6)) {
            case 0 -> "\n";
            case 1 -> "  ";
            default -> " ";
        };
    }

    private String program() {
        String text;
        do {
            text = anyProgram();
        } while (text.length() > 880);
        return text;
    }

    private String anyProgram() {
        int banks = 1 + random.nextInt(random.nextBoolean() ? 3 : 8);
        int rows = 1 + random.nextInt(random.nextBoolean() ? 3 : 16);
        int columns = 1 + random.nextInt(8);
        StringBuilder text = new StringBuilder();
        text.append("banks").append(blank()).append(banks).append("rows").append(rows)
                .append(blank()).append("columns ").append(columns).append(";");
        String[] settings = {
            "activate", "access", "compute", "multiply", "reduce", "transfer", "budget", "window",
            "cache",
        };
        int[] most = {100, 100, 100, 100, 100, 100, 8, 1000, 8};
        for (int i = 0; i < 9; i++) {
            if (random.nextInt(3) == 0) {
                int range = random.nextBoolean() ? most[i] : Math.min(most[i], 12);
                int least = i == 8 ? 0 : 1;
                text.append(settings[i]).append(blank())
                        .append(least + random.nextInt(range)).append(";");
            }
        }
        if (random.nextInt(60) == 0) {
            text.append(settings[random.nextInt(9)]).append(" 1;");
        }
        boolean isWide = random.nextInt(8) == 0;
        int batches = isWide ? 11 + random.nextInt(3) : 1 + random.nextInt(6);
        int registers = 1 + random.nextInt(4);
        int mostCommands = isWide ? 3 : random.nextInt(6) == 0 ? 33 : 7;
        for (int i = 0; i < batches; i++) {
            int first = isPlanning ? random.nextInt(4) : 0;
            int number = isPlanning ? 1 : registers;
            addBatch(text, banks, rows, first, number, random.nextInt(mostCommands));
        }
        return text.toString();
    }

    private void addBatch(
            StringBuilder text, int banks, int rows, int first, int number, int commands) {
        text.append("batch");
        List<Integer> all = new ArrayList<>();
        for (int b = 0; b < banks; b++) {
            all.add(b);
        }
        java.util.Collections.shuffle(all, random);
        int size = random.nextBoolean() ? 1 : 1 + random.nextInt(banks);
        for (int i = 0; i < size; i++) {
            text.append(blank()).append(all.get(i));
        }
        if (random.nextInt(150) == 0) {
            text.append(" ").append(all.get(random.nextInt(size)));
        }
        text.append(":");
        for (int i = 0; i < commands; i++) {
            text.append(command(rows, first, number)).append(";");
        }
        text.append("end;");
    }

    /** A command with some of the registers. */
    private String command(int rows, int firstRegister, int number) {
        String[] operations = {"add", "mul", "min", "max", "and", "or", "xor", "sub"};
        String first = "" + (firstRegister + random.nextInt(number)) % 4;
        String left = "" + (firstRegister + random.nextInt(number)) % 4;
        String right = "" + (firstRegister + random.nextInt(number)) % 4;
        String reduction = operations[random.nextInt(7)];
        return switch (random.nextInt(12)) {
            case 0, 1, 2 -> "load " + first + blank() + random.nextInt(rows);
            case 3, 4 -> "store " + first + blank() + random.nextInt(rows);
            case 5 -> "set " + first + (random.nextBoolean() ? " " : "-") + random.nextInt(1000);
            case 6 -> "reduce " + reduction + blank() + first;
            case 7 -> "lanes " + reduction + first;
            case 8 -> "broadcast " + first;
            case 9 -> "barrier";
            default -> operations[random.nextInt(8)] + blank() + first + " " + left + " " + right;
        };
    }

    /** Changes a text at one or two places. */
    private String spoiled(String text) {
        StringBuilder result = new StringBuilder(text);
        for (int times = random.nextInt(2); times >= 0; times--) {
            int at = random.nextInt(result.length() + 1);
            int end = Math.min(result.length(), at + random.nextInt(4));
            switch (random.nextInt(4)) {
                case 0 -> result.delete(at, end);
                case 1 -> result.setLength(at);
                case 2 -> result.insert(at, ODD_TEXTS[random.nextInt(ODD_TEXTS.length)]);
                default -> result.replace(at, end, ODD_TEXTS[random.nextInt(ODD_TEXTS.length)]);
            }
        }
        return result.toString();
    }
}
