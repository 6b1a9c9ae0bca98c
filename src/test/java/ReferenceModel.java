import java.util.ArrayList;
import java.util.Arrays;
import java.util.HashSet;
import java.util.LinkedHashMap;
import java.util.List;
import java.util.Map;
import java.util.NoSuchElementException;
import java.util.Set;
import java.util.TreeSet;
import java.util.regex.Matcher;
import java.util.regex.Pattern;

/**
 * The document once more, written with the Java library, without regard to speed and room, and in
 * another way than the class: tokens are texts, commands are lists of texts, states are copied
 * whole, all activations are remembered, and all orders of the queue are tried.
 */
final class ReferenceModel {
    private static final Pattern TOKEN = Pattern.compile("[a-z]+|[0-9]+|[:;-]|[^ \n]", Pattern.DOTALL);
    private static final List<String> REDUCTIONS =
            List.of("add", "mul", "min", "max", "and", "or", "xor");
    private static final Map<String, int[]> SETTINGS = settings();

    private static Map<String, int[]> settings() {
        Map<String, int[]> map = new LinkedHashMap<>();
        map.put("activate", new int[] {1, 100, 10});
        map.put("access", new int[] {1, 100, 4});
        map.put("compute", new int[] {1, 100, 2});
        map.put("multiply", new int[] {1, 100, 5});
        map.put("reduce", new int[] {1, 100, 3});
        map.put("transfer", new int[] {1, 100, 6});
        map.put("budget", new int[] {1, 8, 4});
        map.put("window", new int[] {1, 1000, 50});
        map.put("cache", new int[] {0, 8, 4});
        return map;
    }

    private static final class TextError extends RuntimeException {
        private static final long serialVersionUID = 1L;
        final int code;
        final int position;

        TextError(int code, int position) {
            this.code = code;
            this.position = position;
        }
    }

    private static final class Batch {
        final TreeSet<Integer> banks = new TreeSet<>();
        final List<List<String>> commands = new ArrayList<>();
        final Set<String> reads = new HashSet<>();
        final Set<String> writes = new HashSet<>();
    }

    private static final class Program {
        int banks;
        int rows;
        int columns;
        final Map<String, Integer> settings = new LinkedHashMap<>();
        final List<Batch> batches = new ArrayList<>();

        Program() {
            for (Map.Entry<String, int[]> e : SETTINGS.entrySet()) {
                settings.put(e.getKey(), e.getValue()[2]);
            }
        }
    }

    private static final class Reader {
        final List<String> tokens = new ArrayList<>();
        final List<Integer> positions = new ArrayList<>();
        final Program program = new Program();
        int at = 0;
        int commandsInAll = 0;

        Reader(String text) {
            Matcher matcher = TOKEN.matcher(text);
            while (matcher.find()) {
                tokens.add(matcher.group());
                positions.add(matcher.start());
            }
            tokens.add("");
            positions.add(text.length());
        }

        String peek() {
            return tokens.get(at);
        }

        TextError error(int code) {
            return new TextError(code, positions.get(at));
        }

        void expect(String wanted) {
            if (!peek().equals(wanted)) {
                throw error(1);
            }
            at++;
        }

        int number(int least, int most) {
            if (!peek().matches("[0-9]{1,6}")) {
                throw error(1);
            }
            int value = Integer.parseInt(peek());
            if (value < least || value > most) {
                throw error(2);
            }
            at++;
            return value;
        }

        Program read() {
            expect("banks");
            program.banks = number(1, 8);
            expect("rows");
            program.rows = number(1, 16);
            expect("columns");
            program.columns = number(1, 8);
            expect(";");
            Set<String> seen = new HashSet<>();
            while (SETTINGS.containsKey(peek())) {
                String setting = peek();
                if (!seen.add(setting)) {
                    throw error(3);
                }
                at++;
                int[] range = SETTINGS.get(setting);
                program.settings.put(setting, number(range[0], range[1]));
                expect(";");
            }
            while (!peek().isEmpty()) {
                readBatch();
            }
            return program;
        }

        void readBatch() {
            if (peek().equals("batch") && program.batches.size() == 12) {
                throw error(4);
            }
            expect("batch");
            Batch batch = new Batch();
            do {
                int bank = number(0, program.banks - 1);
                if (!batch.banks.add(bank)) {
                    at--;
                    throw error(3);
                }
            } while (!peek().equals(":"));
            at++;
            while (!peek().equals("end")) {
                batch.commands.add(readCommand());
            }
            at++;
            expect(";");
            findUses(batch);
            program.batches.add(batch);
        }

        List<String> readCommand() {
            List<String> command = new ArrayList<>();
            String word = peek();
            boolean isOperation = REDUCTIONS.contains(word) || word.equals("sub");
            boolean isOther =
                    List.of("load", "store", "set", "reduce", "lanes", "broadcast", "barrier")
                            .contains(word);
            if (!isOperation && !isOther) {
                throw error(1);
            }
            if (++commandsInAll > 60) {
                throw error(4);
            }
            at++;
            command.add(word);
            if (word.equals("reduce") || word.equals("lanes")) {
                if (!REDUCTIONS.contains(peek())) {
                    throw error(1);
                }
                command.add(peek());
                at++;
            }
            if (!word.equals("barrier")) {
                command.add("" + number(0, 3));
            }
            if (isOperation) {
                command.add("" + number(0, 3));
                command.add("" + number(0, 3));
            } else if (word.equals("load") || word.equals("store")) {
                command.add("" + number(0, program.rows - 1));
            } else if (word.equals("set")) {
                boolean isNegative = peek().equals("-");
                if (isNegative) {
                    at++;
                }
                int value = number(0, 999999);
                command.add("" + (isNegative ? -value : value));
            }
            expect(";");
            return command;
        }

        static void findUses(Batch batch) {
            for (List<String> c : batch.commands) {
                for (int bank : batch.banks) {
                    boolean isLowest = bank == batch.banks.first();
                    String b = bank + "/";
                    switch (c.get(0)) {
                        case "load" -> {
                            batch.reads.add(b + "row" + c.get(2));
                            batch.writes.add(b + "reg" + c.get(1));
                        }
                        case "store" -> {
                            batch.reads.add(b + "reg" + c.get(1));
                            batch.writes.add(b + "row" + c.get(2));
                        }
                        case "set" -> batch.writes.add(b + "reg" + c.get(1));
                        case "lanes" -> {
                            batch.reads.add(b + "reg" + c.get(2));
                            batch.writes.add(b + "reg" + c.get(2));
                        }
                        case "reduce" -> {
                            batch.reads.add(b + "reg" + c.get(2));
                            if (isLowest) {
                                batch.writes.add(b + "reg" + c.get(2));
                            }
                        }
                        case "broadcast" ->
                                (isLowest ? batch.reads : batch.writes).add(b + "reg" + c.get(1));
                        case "barrier" -> { }
                        default -> {
                            batch.writes.add(b + "reg" + c.get(1));
                            batch.reads.add(b + "reg" + c.get(2));
                            batch.reads.add(b + "reg" + c.get(3));
                        }
                    }
                }
            }
        }
    }

    private static final class Bank {
        int clock;
        int[] ready = new int[4];
        int open = -1;
        List<Integer> starts = new ArrayList<>();
        int[] stalls = new int[4];
        int executed;

        Bank copy() {
            Bank b = new Bank();
            b.clock = clock;
            b.ready = ready.clone();
            b.open = open;
            b.starts = new ArrayList<>(starts);
            b.stalls = stalls.clone();
            b.executed = executed;
            return b;
        }

        int latest() {
            return Math.max(clock, Arrays.stream(ready).max().getAsInt());
        }
    }

    private static final class Line {
        int[] words;
        boolean isDirty;

        Line copy() {
            Line l = new Line();
            l.words = words.clone();
            l.isDirty = isDirty;
            return l;
        }
    }

    private static final class State {
        final Program program;
        int[][][] memory;
        int[][][] registers;
        List<Bank> banks = new ArrayList<>();
        // From the least recently used line on; the key is "bank,row".
        LinkedHashMap<String, Line> lines = new LinkedHashMap<>();
        int[] counts = new int[3];
        boolean isAutomatic;
        List<Integer> queue = new ArrayList<>();
        List<int[]> runs = new ArrayList<>();

        State(Program program) {
            this.program = program;
            memory = new int[program.banks][program.rows][program.columns];
            registers = new int[program.banks][4][program.columns];
            for (int b = 0; b < program.banks; b++) {
                banks.add(new Bank());
            }
        }

        State copy() {
            State s = new State(program);
            for (int b = 0; b < program.banks; b++) {
                for (int r = 0; r < program.rows; r++) {
                    s.memory[b][r] = memory[b][r].clone();
                }
                for (int r = 0; r < 4; r++) {
                    s.registers[b][r] = registers[b][r].clone();
                }
                s.banks.set(b, banks.get(b).copy());
            }
            for (Map.Entry<String, Line> e : lines.entrySet()) {
                s.lines.put(e.getKey(), e.getValue().copy());
            }
            s.counts = counts.clone();
            s.isAutomatic = isAutomatic;
            s.queue = new ArrayList<>(queue);
            s.runs = new ArrayList<>(runs);
            return s;
        }

        int finish() {
            return banks.stream().mapToInt(Bank::latest).max().getAsInt();
        }

        int setting(String name) {
            return program.settings.get(name);
        }

        void writeBack(String key) {
            Line line = lines.get(key);
            if (line != null && line.isDirty) {
                System.arraycopy(line.words, 0, rowOf(key), 0, program.columns);
                line.isDirty = false;
                counts[2]++;
            }
        }

        int[] rowOf(String key) {
            String[] parts = key.split(",");
            return memory[Integer.parseInt(parts[0])][Integer.parseInt(parts[1])];
        }

        /** Returns the words that the host uses. */
        int[] access(int bank, int row, boolean isWrite) {
            String key = bank + "," + row;
            if (setting("cache") == 0) {
                counts[1]++;
                return memory[bank][row];
            }
            Line line = lines.remove(key);
            if (line != null) {
                counts[0]++;
            } else {
                counts[1]++;
                if (lines.size() == setting("cache")) {
                    String oldest = lines.keySet().iterator().next();
                    writeBack(oldest);
                    lines.remove(oldest);
                }
                line = new Line();
                line.words = memory[bank][row].clone();
            }
            lines.put(key, line);
            line.isDirty |= isWrite;
            return line.words;
        }

        void runBatch(int number, int budget) {
            Batch batch = program.batches.get(number);
            Set<String> used = new TreeSet<>();
            Set<String> stored = new TreeSet<>();
            for (List<String> c : batch.commands) {
                for (int b : batch.banks) {
                    if (c.get(0).equals("load") || c.get(0).equals("store")) {
                        used.add(b + "," + c.get(2));
                    }
                    if (c.get(0).equals("store")) {
                        stored.add(b + "," + c.get(2));
                    }
                }
            }
            if (isAutomatic) {
                used.forEach(this::writeBack);
            }
            int begin = batch.banks.stream().mapToInt(b -> banks.get(b).clock).min().getAsInt();
            for (List<String> c : batch.commands) {
                compute(batch, c);
                time(batch, c, budget);
            }
            int end = batch.banks.stream().mapToInt(b -> banks.get(b).latest()).max().getAsInt();
            runs.add(new int[] {number, begin, end});
            if (isAutomatic) {
                stored.forEach(lines::remove);
            }
        }

        static int apply(String operation, int x, int y) {
            return switch (operation) {
                case "add" -> x + y;
                case "sub" -> x - y;
                case "mul" -> x * y;
                case "min" -> Math.min(x, y);
                case "max" -> Math.max(x, y);
                case "and" -> x & y;
                case "or" -> x | y;
                case "xor" -> x ^ y;
                default -> throw new AssertionError(operation);
            };
        }

        void compute(Batch batch, List<String> c) {
            int columns = program.columns;
            if (c.get(0).equals("barrier")) {
                return;
            }
            boolean hasOperation = c.get(0).equals("reduce") || c.get(0).equals("lanes");
            int r = Integer.parseInt(c.get(hasOperation ? 2 : 1));
            int lowest = batch.banks.first();
            if (c.get(0).equals("reduce")) {
                for (int l = 0; l < columns; l++) {
                    int sum = registers[lowest][r][l];
                    for (int b : batch.banks.tailSet(lowest, false)) {
                        sum = apply(c.get(1), sum, registers[b][r][l]);
                    }
                    registers[lowest][r][l] = sum;
                }
                return;
            }
            for (int b : batch.banks) {
                int[][] reg = registers[b];
                switch (c.get(0)) {
                    case "load" -> reg[r] = memory[b][Integer.parseInt(c.get(2))].clone();
                    case "store" -> memory[b][Integer.parseInt(c.get(2))] = reg[r].clone();
                    case "set" -> Arrays.fill(reg[r], Integer.parseInt(c.get(2)));
                    case "lanes" -> {
                        int sum = reg[r][0];
                        for (int l = 1; l < columns; l++) {
                            sum = apply(c.get(1), sum, reg[r][l]);
                        }
                        reg[r][0] = sum;
                    }
                    case "broadcast" -> reg[r] = registers[lowest][r].clone();
                    default -> {
                        int[] x = reg[Integer.parseInt(c.get(2))].clone();
                        int[] y = reg[Integer.parseInt(c.get(3))].clone();
                        for (int l = 0; l < columns; l++) {
                            reg[r][l] = apply(c.get(0), x[l], y[l]);
                        }
                    }
                }
            }
        }

        static int log(int n) {
            int s = 0;
            for (int p = 1; p < n; p *= 2) {
                s++;
            }
            return s;
        }

        void time(Batch batch, List<String> c, int budget) {
            for (int b : batch.banks) {
                banks.get(b).executed++;
            }
            switch (c.get(0)) {
                case "reduce" -> {
                    int r = Integer.parseInt(c.get(2));
                    int t = meet(batch, r);
                    int e = t + log(batch.banks.size()) * setting("reduce");
                    together(batch, t, e);
                    banks.get(batch.banks.first()).ready[r] = e;
                }
                case "broadcast" -> {
                    int r = Integer.parseInt(c.get(1));
                    int t = meet(batch, r);
                    int e = t + setting("transfer");
                    together(batch, t, e);
                    batch.banks.forEach(b -> banks.get(b).ready[r] = e);
                }
                case "barrier" -> {
                    int t = batch.banks.stream().mapToInt(b -> banks.get(b).latest()).max()
                            .getAsInt();
                    together(batch, t, t);
                }
                default -> batch.banks.forEach(b -> alone(banks.get(b), c, budget));
            }
        }

        int meet(Batch batch, int r) {
            int t = 0;
            for (int b : batch.banks) {
                t = Math.max(t, Math.max(banks.get(b).clock, banks.get(b).ready[r]));
            }
            return t;
        }

        void together(Batch batch, int t, int end) {
            for (int b : batch.banks) {
                banks.get(b).stalls[3] += t - banks.get(b).clock;
                banks.get(b).clock = end;
            }
        }

        void alone(Bank bank, List<String> c, int budget) {
            String verb = c.get(0);
            int d = Integer.parseInt(c.get(verb.equals("lanes") ? 2 : 1));
            int t = Math.max(bank.clock, bank.ready[d]);
            if (REDUCTIONS.contains(verb) || verb.equals("sub")) {
                t = Math.max(t, bank.ready[Integer.parseInt(c.get(2))]);
                t = Math.max(t, bank.ready[Integer.parseInt(c.get(3))]);
            }
            bank.stalls[0] += t - bank.clock;
            switch (verb) {
                case "set" -> {
                    bank.clock = t + 1;
                    bank.ready[d] = t + 1;
                }
                case "lanes" -> {
                    bank.clock = t + 1;
                    int each = setting(c.get(1).equals("mul") ? "multiply" : "compute");
                    bank.ready[d] = t + log(program.columns) * each;
                }
                case "load", "store" -> {
                    t = open(bank, Integer.parseInt(c.get(2)), t, budget);
                    if (verb.equals("load")) {
                        bank.clock = t + 1;
                        bank.ready[d] = t + setting("access");
                    } else {
                        bank.clock = t + setting("access");
                    }
                }
                default -> {
                    bank.clock = t + 1;
                    bank.ready[d] = t + setting(verb.equals("mul") ? "multiply" : "compute");
                }
            }
        }

        int open(Bank bank, int row, int t, int budget) {
            if (bank.open == row) {
                return t;
            }
            int u = t;
            int before = bank.starts.size();
            if (before >= budget) {
                u = Math.max(t, bank.starts.get(before - budget) + setting("window"));
            }
            bank.starts.add(u);
            bank.open = row;
            bank.stalls[1] += setting("activate");
            bank.stalls[2] += u - t;
            return u + setting("activate");
        }
    }

    private final StringBuilder text = new StringBuilder();
    private int errorCode = 0;
    private int errorPosition = -1;
    private Program program;
    private State state;
    private final State[] slots = new State[2];

    ReferenceModel() {
        program = new Reader("banks 1 rows 1 columns 1;").read();
        state = new State(program);
    }

    private static void index(boolean isRight) {
        if (!isRight) {
            throw new IndexOutOfBoundsException();
        }
    }

    private static void argument(boolean isRight) {
        if (!isRight) {
            throw new IllegalArgumentException();
        }
    }

    private static void allowed(boolean isRight) {
        if (!isRight) {
            throw new IllegalStateException();
        }
    }

    private static void present(boolean isRight) {
        if (!isRight) {
            throw new NoSuchElementException();
        }
    }

    private static boolean in(int x, int size) {
        return x >= 0 && x < size;
    }

    private Batch batch(int number) {
        index(in(number, program.batches.size()));
        return program.batches.get(number);
    }

    private Bank bank(int number) {
        index(in(number, program.banks));
        return state.banks.get(number);
    }

    private String key(int bank, int row) {
        index(in(bank, program.banks) && in(row, program.rows));
        return bank + "," + row;
    }

    int append(int a, int b, int c, int d, int e) {
        allowed(text.length() + 20 <= 900);
        for (int word : new int[] {a, b, c, d, e}) {
            for (int i = 3; i >= 0; i--) {
                text.append((char) (word >> 8 * i & 0xff));
            }
        }
        return text.length();
    }

    int truncate(int length) {
        index(length >= 0 && length <= text.length());
        text.setLength(length);
        return length;
    }

    int load() {
        String all = text.toString();
        text.setLength(0);
        try {
            program = new Reader(all).read();
        } catch (TextError e) {
            errorCode = e.code;
            errorPosition = e.position;
            throw new IllegalArgumentException();
        }
        errorCode = 0;
        errorPosition = -1;
        state = new State(program);
        Arrays.fill(slots, null);
        return program.batches.size();
    }

    int errorCode() {
        return errorCode;
    }

    int errorPosition() {
        return errorPosition;
    }

    int count(int what) {
        argument(in(what, 7));
        return new int[] {
            program.banks, program.rows, program.columns, program.batches.size(),
            state.queue.size(), state.runs.size(), state.lines.size()
        }[what];
    }

    int commands(int batch) {
        return batch(batch).commands.size();
    }

    int banks(int batch) {
        return batch(batch).banks.stream().mapToInt(b -> 1 << b).sum();
    }

    int memory(int bank, int row, int column) {
        key(bank, row);
        index(in(column, program.columns));
        return state.memory[bank][row][column];
    }

    int fill(int bank, int row, int first, int step) {
        String key = key(bank, row);
        for (int c = 0; c < program.columns; c++) {
            state.memory[bank][row][c] = first + c * step;
        }
        if (state.isAutomatic) {
            state.lines.remove(key);
        }
        return state.memory[bank][row][program.columns - 1];
    }

    int register(int bank, int register, int lane) {
        bank(bank);
        index(in(register, 4) && in(lane, program.columns));
        return state.registers[bank][register][lane];
    }

    int hostRead(int bank, int row, int column) {
        memory(bank, row, column);
        return state.access(bank, row, false)[column];
    }

    int hostWrite(int bank, int row, int column, int value) {
        memory(bank, row, column);
        int[] words = state.access(bank, row, true);
        int before = words[column];
        words[column] = value;
        return before;
    }

    boolean flush(int bank, int row) {
        String key = key(bank, row);
        int before = state.counts[2];
        state.writeBack(key);
        return state.counts[2] > before;
    }

    int flushAll() {
        int before = state.counts[2];
        state.lines.keySet().forEach(state::writeBack);
        return state.counts[2] - before;
    }

    boolean invalidate(int bank, int row) {
        return state.lines.remove(key(bank, row)) != null;
    }

    int line(int bank, int row) {
        Line line = state.lines.get(key(bank, row));
        if (line == null) {
            return 0;
        }
        return (line.isDirty ? 2 : 1) + (Arrays.equals(line.words, state.memory[bank][row]) ? 0 : 4);
    }

    int cache(int what) {
        argument(in(what, 3));
        return state.counts[what];
    }

    boolean setCoherence(boolean isAutomatic) {
        boolean before = state.isAutomatic;
        state.isAutomatic = isAutomatic;
        return before;
    }

    int submit(int batch) {
        batch(batch);
        allowed(state.queue.size() < 16);
        state.queue.add(batch);
        return state.queue.size();
    }

    int queued(int position) {
        index(in(position, state.queue.size()));
        return state.queue.get(position);
    }

    int run(int number) {
        argument(number >= 1 && number <= 16);
        int done = 0;
        while (done < number && !state.queue.isEmpty()) {
            state.runBatch(state.queue.remove(0), state.setting("budget"));
            done++;
        }
        return done;
    }

    int runOf(int run, int what) {
        index(in(run, state.runs.size()) && run >= state.runs.size() - 40);
        argument(in(what, 3));
        return state.runs.get(run)[what];
    }

    int clock(int bank) {
        return bank(bank).clock;
    }

    int ready(int bank, int register) {
        bank(bank);
        index(in(register, 4));
        return bank(bank).ready[register];
    }

    int openRow(int bank) {
        return bank(bank).open;
    }

    int stalls(int bank, int kind) {
        bank(bank);
        argument(in(kind, 4));
        return bank(bank).stalls[kind];
    }

    int finish() {
        return state.finish();
    }

    double utilization(int bank) {
        bank(bank);
        allowed(finish() != 0);
        return (double) bank(bank).executed / finish();
    }

    private State after(List<Integer> batches, int budget) {
        State then = state.copy();
        batches.forEach(b -> then.runBatch(b, budget));
        return then;
    }

    private int usualFinish(List<Integer> batches) {
        return after(batches, state.setting("budget")).finish();
    }

    int wouldFinish(int batch) {
        List<Integer> batches = new ArrayList<>(state.queue);
        if (batch != -1) {
            batch(batch);
            batches.add(batch);
        }
        return usualFinish(batches);
    }

    int wouldBe(int bank, int register, int lane) {
        register(bank, register, lane);
        return after(state.queue, 1).registers[bank][register][lane];
    }

    boolean isConflict(int a, int b) {
        Batch one = batch(a);
        Batch other = batch(b);
        return meets(one.writes, other.writes)
                || meets(one.writes, other.reads)
                || meets(one.reads, other.writes);
    }

    private static boolean meets(Set<String> one, Set<String> other) {
        return one.stream().anyMatch(other::contains);
    }

    int longestChain() {
        int longest = 0;
        for (int first = 0; first < state.queue.size(); first++) {
            longest = Math.max(longest, chainFrom(first, new int[16]));
        }
        return longest;
    }

    private int chainFrom(int first, int[] known) {
        if (known[first] == 0) {
            known[first] = 1;
            for (int next = first + 1; next < state.queue.size(); next++) {
                if (isConflict(state.queue.get(first), state.queue.get(next))) {
                    known[first] = Math.max(known[first], 1 + chainFrom(next, known));
                }
            }
        }
        return known[first];
    }

    private List<Integer> bestPositions() {
        List<List<Integer>> orders = new ArrayList<>();
        addOrders(new ArrayList<>(), orders);
        List<Integer> best = null;
        int bestFinish = 0;
        for (List<Integer> order : orders) {
            if (isAllowed(order)) {
                int finish = usualFinish(order.stream().map(state.queue::get).toList());
                if (best == null || finish < bestFinish) {
                    best = order;
                    bestFinish = finish;
                }
            }
        }
        return best;
    }

    private void addOrders(List<Integer> begin, List<List<Integer>> orders) {
        if (begin.size() == state.queue.size()) {
            orders.add(new ArrayList<>(begin));
            return;
        }
        for (int p = 0; p < state.queue.size(); p++) {
            if (!begin.contains(p)) {
                begin.add(p);
                addOrders(begin, orders);
                begin.remove(begin.size() - 1);
            }
        }
    }

    private boolean isAllowed(List<Integer> order) {
        for (int i = 0; i < order.size(); i++) {
            for (int j = i + 1; j < order.size(); j++) {
                if (order.get(i) > order.get(j)
                        && isConflict(state.queue.get(order.get(i)), state.queue.get(order.get(j)))) {
                    return false;
                }
            }
        }
        return true;
    }

    int bestFinish() {
        allowed(state.queue.size() <= 6);
        return usualFinish(bestPositions().stream().map(state.queue::get).toList());
    }

    int bestOrder(int index) {
        allowed(state.queue.size() <= 6);
        index(in(index, state.queue.size()));
        return bestPositions().get(index);
    }

    int reorder() {
        allowed(state.queue.size() <= 6);
        int before = usualFinish(state.queue);
        state.queue = new ArrayList<>(bestPositions().stream().map(state.queue::get).toList());
        return before - usualFinish(state.queue);
    }

    int budgetFor(int limit) {
        for (int budget = 1; budget <= 8; budget++) {
            if (after(state.queue, budget).finish() <= limit) {
                return budget;
            }
        }
        throw new NoSuchElementException();
    }

    void save(int slot) {
        index(in(slot, 2));
        slots[slot] = state.copy();
    }

    void restore(int slot) {
        index(in(slot, 2));
        present(slots[slot] != null);
        state = slots[slot].copy();
    }
}
