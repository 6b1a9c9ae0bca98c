import java.util.Arrays;
import java.util.NoSuchElementException;

/**
 * A simulator of memory banks with processing elements, of the host's cache and of the queue of
 * submitted batches.
 *
 * <p>All arrays are made with the object, for the greatest program there can be, and used again: no
 * call makes anything but the exception that it throws.
 */
public final class ProcessingMemory {
    /** There is no such value. */
    public static final int NONE = -1;

    private static final int MOST_BANKS = 8;
    private static final int MOST_ROWS = 16;
    private static final int MOST_COLUMNS = 8;
    private static final int REGISTERS = 4;
    private static final int ALL_BANKS = (1 << MOST_BANKS) - 1;

    private static final int MOST_TEXT = 900;
    private static final int APPENDED = 20;
    private static final int MOST_DIGITS = 6;
    private static final int MOST_NUMBER = 999999;
    private static final int MOST_BATCHES = 12;
    private static final int MOST_COMMANDS = 60;

    private static final int MOST_QUEUED = 16;
    private static final int MOST_PLANNED = 6;
    private static final int KEPT_RUNS = 40;
    private static final int RUN_FACTS = 3;
    private static final int MOST_LINES = 8;
    private static final int MOST_BUDGET = 8;
    private static final int SLOTS = 2;
    private static final int NEVER = 2147483647;

    private static final int NO_ERROR = 0;
    private static final int WRONG_TOKEN = 1;
    private static final int OUT_OF_RANGE = 2;
    private static final int REPEATED = 3;
    private static final int TOO_MANY = 4;

    // The words of programs in the order of their numbers. "reduce" is the last setting and the
    // first verb.
    private static final String WORDS =
            "activate access compute multiply transfer budget window cache reduce load store set lanes broadcast barrier add mul min max and or xor sub banks rows columns batch end ";
    private static final int ACTIVATE = 0;
    private static final int ACCESS = 1;
    private static final int COMPUTE = 2;
    private static final int MULTIPLY = 3;
    private static final int TRANSFER = 4;
    private static final int BUDGET = 5;
    private static final int WINDOW = 6;
    private static final int CACHE = 7;
    private static final int REDUCE = 8;
    private static final int LOAD = 9;
    private static final int STORE = 10;
    private static final int SET = 11;
    private static final int LANES = 12;
    private static final int BROADCAST = 13;
    private static final int BARRIER = 14;
    private static final int ADD = 15;
    private static final int MUL = 16;
    private static final int MIN = 17;
    private static final int MAX = 18;
    private static final int AND = 19;
    private static final int OR = 20;
    private static final int XOR = 21;
    private static final int SUB = 22;
    private static final int BANKS = 23;
    private static final int ROWS = 24;
    private static final int COLUMNS = 25;
    private static final int BATCH = 26;
    private static final int END = 27;

    // The tokens that are no words.
    private static final int NUMBER = 28;
    private static final int COLON = 29;
    private static final int SEMICOLON = 30;
    private static final int MINUS = 31;
    private static final int TEXT_END = 32;
    private static final int NO_TOKEN = 33;

    // The verb of all commands that begin with an operation.
    private static final int OPERATE = 34;

    private static final int SETTINGS = REDUCE + 1;
    private static final int[] LEAST_SETTINGS = {1, 1, 1, 1, 1, 1, 1, 0, 1};
    private static final int[] MOST_SETTINGS = {100, 100, 100, 100, 100, 8, 1000, 8, 100};
    private static final int[] USUAL_SETTINGS = {10, 4, 2, 5, 6, 4, 50, 4, 3};

    private static final int HAZARDS = 0;
    private static final int ACTIVATIONS = 1;
    private static final int BUDGET_WAITS = 2;
    private static final int SYNCHRONIZATION = 3;
    private static final int STALL_KINDS = 4;

    private final int[] text = new int[MOST_TEXT];
    private int textLength;
    private int latestErrorCode;
    private int latestErrorPosition;
    private final Parser parser = new Parser();
    private Program program = new Program();
    // A text is parsed into this one, so that the loaded program stays if the text has an error.
    private Program spareProgram = new Program();
    private final State state = new State();
    private final State prediction = new State();
    private final State[] slots = {new State(), new State()};
    private int savedSlots;
    private final Planner planner = new Planner();

    /** Creates a simulator with the program "banks 1 rows 1 columns 1;". */
    public ProcessingMemory() {
        latestErrorPosition = NONE;
        program.clear();
        state.clear();
    }

    /** Appends the 20 bytes of the arguments to the text and returns the new length. */
    public int append(int a, int b, int c, int d, int e) throws IllegalStateException {
        if (textLength > MOST_TEXT - APPENDED) {
            throw new IllegalStateException("the text would be too long");
        }
        appendBytes(a);
        appendBytes(b);
        appendBytes(c);
        appendBytes(d);
        appendBytes(e);
        return textLength;
    }

    private void appendBytes(int bytes) {
        for (int shift = 24; shift >= 0; shift -= 8) {
            text[textLength] = bytes >>> shift & 255;
            textLength++;
        }
    }

    /** Truncates the text and returns its new length. */
    public int truncate(int length) throws IndexOutOfBoundsException {
        if (length < 0 || length > textLength) {
            throw new IndexOutOfBoundsException("no such length of the text");
        }
        textLength = length;
        return textLength;
    }

    /** Loads the text as a program, empties it and returns the number of batches. */
    public int load() throws IllegalArgumentException {
        int length = textLength;
        textLength = 0;
        parser.parse(text, length, spareProgram);
        latestErrorCode = parser.errorCode;
        latestErrorPosition = parser.errorPosition;
        if (latestErrorCode != NO_ERROR) {
            throw new IllegalArgumentException("the text has an error");
        }
        Program loaded = spareProgram;
        spareProgram = program;
        program = loaded;
        state.clear();
        planner.forgetPlan();
        savedSlots = 0;
        return program.batchCount;
    }

    /** Returns the error code of the latest load(), 0 if there was no error. */
    public int errorCode() {
        return latestErrorCode;
    }

    /** Returns the position of the error of the latest load(), NONE if there was no error. */
    public int errorPosition() {
        return latestErrorPosition;
    }

    /** Counts banks, rows, columns, batches, queued batches, runs or lines (0 to 6). */
    public int count(int what) throws IllegalArgumentException {
        switch (what) {
            case 0:
                return program.bankCount;
            case 1:
                return program.rowCount;
            case 2:
                return program.columnCount;
            case 3:
                return program.batchCount;
            case 4:
                return state.agenda.length;
            case 5:
                return state.agenda.runCount;
            case 6:
                return state.cache.lineCount();
            default:
                throw new IllegalArgumentException("nothing to count");
        }
    }

    /** Returns the number of commands of a batch. */
    public int commands(int batch) throws IndexOutOfBoundsException {
        requireBatch(batch);
        return program.ends[batch] - program.begins[batch];
    }

    /** Returns the bit set of the banks of a batch. */
    public int banks(int batch) throws IndexOutOfBoundsException {
        requireBatch(batch);
        return program.bankSets[batch];
    }

    /** Returns a word of the memory itself. */
    public int memory(int bank, int row, int column) throws IndexOutOfBoundsException {
        requireWord(bank, row, column);
        return state.values.words[wordPlace(bank, row, column)];
    }

    /** Fills a row of the memory itself and returns its last word. */
    public int fill(int bank, int row, int first, int step) throws IndexOutOfBoundsException {
        requireRow(bank, row);
        for (int column = 0; column < program.columnCount; column++) {
            state.values.words[wordPlace(bank, row, column)] = first + column * step;
        }
        if (state.isAutomatic) {
            state.cache.removeLine(state.cache.lineOf(bank, row));
        }
        return first + (program.columnCount - 1) * step;
    }

    /** Returns a lane of a register. */
    public int register(int bank, int register, int lane) throws IndexOutOfBoundsException {
        requireLane(bank, register, lane);
        return state.values.lanes[lanePlace(bank, register, lane)];
    }

    /** The host reads a word. */
    public int hostRead(int bank, int row, int column) throws IndexOutOfBoundsException {
        requireWord(bank, row, column);
        Cache cache = state.cache;
        int line = cache.useLine(bank, row, program.settings[CACHE], state.values);
        return line == NONE
                ? state.values.words[wordPlace(bank, row, column)]
                : cache.words[line * MOST_COLUMNS + column];
    }

    /** The host writes a word; the previous one is returned. */
    public int hostWrite(int bank, int row, int column, int value)
            throws IndexOutOfBoundsException {
        requireWord(bank, row, column);
        Cache cache = state.cache;
        int line = cache.useLine(bank, row, program.settings[CACHE], state.values);
        int previous;
        if (line == NONE) {
            previous = state.values.words[wordPlace(bank, row, column)];
            state.values.words[wordPlace(bank, row, column)] = value;
        } else {
            previous = cache.words[line * MOST_COLUMNS + column];
            cache.words[line * MOST_COLUMNS + column] = value;
            cache.isDirty[line] = true;
        }
        return previous;
    }

    /** Writes back the line of a row, if it is dirty, and returns whether it was. */
    public boolean flush(int bank, int row) throws IndexOutOfBoundsException {
        requireRow(bank, row);
        return state.cache.writeBack(state.cache.lineOf(bank, row), state.values);
    }

    /** Writes back all dirty lines and returns their number. */
    public int flushAll() {
        int written = 0;
        for (int line = 0; line < MOST_LINES; line++) {
            if (state.cache.writeBack(line, state.values)) {
                written++;
            }
        }
        return written;
    }

    /** Removes the line of a row and returns whether there was one. */
    public boolean invalidate(int bank, int row) throws IndexOutOfBoundsException {
        requireRow(bank, row);
        return state.cache.removeLine(state.cache.lineOf(bank, row));
    }

    /** Returns 0 (no line of the row), 1 (clean) or 2 (dirty), 4 more if it differs from it. */
    public int line(int bank, int row) throws IndexOutOfBoundsException {
        requireRow(bank, row);
        int line = state.cache.lineOf(bank, row);
        if (line == NONE) {
            return 0;
        }
        int kind = state.cache.isDirty[line] ? 2 : 1;
        return state.cache.differs(line, program.columnCount, state.values) ? kind + 4 : kind;
    }

    /** Returns the hits, the misses or the lines that were written back (0 to 2). */
    public int cache(int what) throws IllegalArgumentException {
        switch (what) {
            case 0:
                return state.cache.hits;
            case 1:
                return state.cache.misses;
            case 2:
                return state.cache.writeBacks;
            default:
                throw new IllegalArgumentException("no such number about the cache");
        }
    }

    /** Makes coherence automatic or manual and returns what it was. */
    public boolean setCoherence(boolean isAutomatic) {
        boolean previous = state.isAutomatic;
        state.isAutomatic = isAutomatic;
        return previous;
    }

    /** Submits a batch and returns the length of the queue. */
    public int submit(int batch) throws IndexOutOfBoundsException, IllegalStateException {
        requireBatch(batch);
        if (state.agenda.length >= MOST_QUEUED) {
            throw new IllegalStateException("the queue is full");
        }
        state.agenda.addBatch(batch);
        planner.forgetPlan();
        return state.agenda.length;
    }

    /** Returns the batch at a position of the queue. */
    public int queued(int position) throws IndexOutOfBoundsException {
        if (position < 0 || position >= state.agenda.length) {
            throw new IndexOutOfBoundsException("no such position in the queue");
        }
        return state.agenda.queue[position];
    }

    /** Runs up to a number of batches of the queue and returns how many were run. */
    public int run(int number) throws IllegalArgumentException {
        if (number < 1 || number > MOST_QUEUED) {
            throw new IllegalArgumentException("no such number of batches");
        }
        int due = Math.min(number, state.agenda.length);
        for (int done = 0; done < due; done++) {
            state.runNext(program);
        }
        planner.forgetPlan();
        return due;
    }

    /** Returns the batch, the begin or the end of a run (0 to 2). */
    public int runOf(int run, int what)
            throws IndexOutOfBoundsException, IllegalArgumentException {
        int runCount = state.agenda.runCount;
        if (run < 0 || run >= runCount || run < runCount - KEPT_RUNS) {
            throw new IndexOutOfBoundsException("no such run is kept");
        }
        if (what < 0 || what >= RUN_FACTS) {
            throw new IllegalArgumentException("no such fact about a run");
        }
        return state.agenda.runs[run % KEPT_RUNS * RUN_FACTS + what];
    }

    /** Returns the clock of a bank. */
    public int clock(int bank) throws IndexOutOfBoundsException {
        requireBank(bank);
        return state.times.clocks[bank];
    }

    /** Returns the ready time of a register. */
    public int ready(int bank, int register) throws IndexOutOfBoundsException {
        requireRegister(bank, register);
        return state.times.readies[bank * REGISTERS + register];
    }

    /** Returns the open row of a bank, NONE if no row is open. */
    public int openRow(int bank) throws IndexOutOfBoundsException {
        requireBank(bank);
        return state.times.openRows[bank];
    }

    /** Returns the stalls of a bank: hazards, activations, budget, synchronization (0 to 3). */
    public int stalls(int bank, int kind)
            throws IndexOutOfBoundsException, IllegalArgumentException {
        requireBank(bank);
        if (kind < 0 || kind >= STALL_KINDS) {
            throw new IllegalArgumentException("no such kind of stalls");
        }
        return state.times.stalled[bank * STALL_KINDS + kind];
    }

    /** Returns the greatest of all clocks and ready times. */
    public int finish() {
        return state.times.latest(ALL_BANKS);
    }

    /** Returns the number of commands that a bank has executed, divided by the finish. */
    public double utilization(int bank) throws IndexOutOfBoundsException, IllegalStateException {
        requireBank(bank);
        int end = finish();
        if (end == 0) {
            throw new IllegalStateException("the finish is 0");
        }
        return (double) state.times.executed[bank] / (double) end;
    }

    /** Returns the finish if the queue and then a batch (NONE for none) were run. */
    public int wouldFinish(int batch) throws IndexOutOfBoundsException {
        if (batch != NONE) {
            requireBatch(batch);
        }
        return predictFinish(batch, program.settings[BUDGET]);
    }

    private int predictFinish(int lastBatch, int budget) {
        Times times = prediction.times;
        times.copyFrom(state.times);
        for (int position = 0; position < state.agenda.length; position++) {
            times.runBatch(program, state.agenda.queue[position], budget);
        }
        if (lastBatch != NONE) {
            times.runBatch(program, lastBatch, budget);
        }
        return times.latest(ALL_BANKS);
    }

    /** Returns what a lane of a register would be if the queue were run. */
    public int wouldBe(int bank, int register, int lane) throws IndexOutOfBoundsException {
        requireLane(bank, register, lane);
        prediction.copyValuesFrom(state);
        for (int position = 0; position < state.agenda.length; position++) {
            prediction.computeBatch(program, state.agenda.queue[position]);
        }
        return prediction.values.lanes[lanePlace(bank, register, lane)];
    }

    /** Returns whether two batches conflict. */
    public boolean isConflict(int a, int b) throws IndexOutOfBoundsException {
        requireBatch(a);
        requireBatch(b);
        return program.areConflicting(a, b);
    }

    /** Returns the length of the longest chain of conflicting batches in the queue. */
    public int longestChain() {
        return planner.chainLength(program, state.agenda);
    }

    /** Returns the finish after the best order of the queue. */
    public int bestFinish() throws IllegalStateException {
        requirePlannable();
        planner.plan(program, state);
        return planner.bestTime;
    }

    /** Returns a position of the best order of the queue. */
    public int bestOrder(int index) throws IllegalStateException, IndexOutOfBoundsException {
        requirePlannable();
        planner.plan(program, state);
        if (index < 0 || index >= state.agenda.length) {
            throw new IndexOutOfBoundsException("no such index in the best order");
        }
        return planner.bestPositions[index];
    }

    /** Reorders the queue by the best order and returns how many ticks that saves. */
    public int reorder() throws IllegalStateException {
        requirePlannable();
        planner.plan(program, state);
        int before = predictFinish(NONE, program.settings[BUDGET]);
        planner.applyTo(state.agenda);
        planner.forgetPlan();
        return before - planner.bestTime;
    }

    /** Returns the least budget with which the queue would not finish later than a limit. */
    public int budgetFor(int limit) throws NoSuchElementException {
        for (int budget = 1; budget <= MOST_BUDGET; budget++) {
            if (predictFinish(NONE, budget) <= limit) {
                return budget;
            }
        }
        throw new NoSuchElementException("no budget is enough");
    }

    /** Saves the state in a slot. */
    public void save(int slot) throws IndexOutOfBoundsException {
        requireSlot(slot);
        slots[slot].copyFrom(state);
        savedSlots |= 1 << slot;
    }

    /** Restores the state that was saved in a slot. */
    public void restore(int slot) throws IndexOutOfBoundsException, NoSuchElementException {
        requireSlot(slot);
        if ((savedSlots >> slot & 1) == 0) {
            throw new NoSuchElementException("nothing is saved in the slot");
        }
        state.copyFrom(slots[slot]);
        planner.forgetPlan();
    }

    private void requireBatch(int batch) {
        if (batch < 0 || batch >= program.batchCount) {
            throw new IndexOutOfBoundsException("no such batch");
        }
    }

    private void requireBank(int bank) {
        if (bank < 0 || bank >= program.bankCount) {
            throw new IndexOutOfBoundsException("no such bank");
        }
    }

    private void requireRow(int bank, int row) {
        requireBank(bank);
        if (row < 0 || row >= program.rowCount) {
            throw new IndexOutOfBoundsException("no such row");
        }
    }

    private void requireWord(int bank, int row, int column) {
        requireRow(bank, row);
        if (column < 0 || column >= program.columnCount) {
            throw new IndexOutOfBoundsException("no such column");
        }
    }

    private void requireRegister(int bank, int register) {
        requireBank(bank);
        if (register < 0 || register >= REGISTERS) {
            throw new IndexOutOfBoundsException("no such register");
        }
    }

    private void requireLane(int bank, int register, int lane) {
        requireRegister(bank, register);
        if (lane < 0 || lane >= program.columnCount) {
            throw new IndexOutOfBoundsException("no such lane");
        }
    }

    private void requireSlot(int slot) {
        if (slot < 0 || slot >= SLOTS) {
            throw new IndexOutOfBoundsException("no such slot");
        }
    }

    private void requirePlannable() {
        if (state.agenda.length > MOST_PLANNED) {
            throw new IllegalStateException("too many batches in the queue");
        }
    }

    private static int wordPlace(int bank, int row, int column) {
        return (bank * MOST_ROWS + row) * MOST_COLUMNS + column;
    }

    private static int lanePlace(int bank, int register, int lane) {
        return (bank * REGISTERS + register) * MOST_COLUMNS + lane;
    }

    /** Copies as many words as a row or a register has at most. */
    private static void copyWords(int[] source, int from, int[] target, int to) {
        System.arraycopy(source, from, target, to, MOST_COLUMNS);
    }

    private static boolean isIn(int bank, int bankSet) {
        return (bankSet >> bank & 1) != 0;
    }

    private static int lowestBank(int bankSet) {
        int bank = 0;
        while (bank < MOST_BANKS - 1 && !isIn(bank, bankSet)) {
            bank++;
        }
        return bank;
    }

    /** The least number of steps in which pairwise combination makes one of a number of things. */
    private static int combiningSteps(int things) {
        int steps = 0;
        while (steps < MOST_BANKS && 1 << steps < things) {
            steps++;
        }
        return steps;
    }

    private static int combine(int operation, int left, int right) {
        switch (operation) {
            case ADD:
                return left + right;
            case MUL:
                return left * right;
            case MIN:
                return left < right ? left : right;
            case MAX:
                return left > right ? left : right;
            case AND:
                return left & right;
            case OR:
                return left | right;
            case XOR:
                return left ^ right;
            case SUB:
                return left - right;
            default:
                return left;
        }
    }

    /** What a text says: sizes, settings and batches, and what each batch uses. */
    private static final class Program {
        int bankCount;
        int rowCount;
        int columnCount;
        final int[] settings = new int[SETTINGS];
        int batchCount;
        int commandCount;
        final int[] bankSets = new int[MOST_BATCHES];
        final int[] begins = new int[MOST_BATCHES];
        final int[] ends = new int[MOST_BATCHES];
        final int[] verbs = new int[MOST_COMMANDS];
        final int[] operations = new int[MOST_COMMANDS];
        final int[] targets = new int[MOST_COMMANDS];
        // The first operand: a register of OPERATE, the row of LOAD and STORE, the number of SET.
        final int[] lefts = new int[MOST_COMMANDS];
        final int[] rights = new int[MOST_COMMANDS];
        // From the begin of a command, and of the access to its row, until its result is there.
        final int[] delays = new int[MOST_COMMANDS];
        // A bit set for each batch and bank: the registers, and above them the rows.
        final int[] reads = new int[MOST_BATCHES * MOST_BANKS];
        final int[] writes = new int[MOST_BATCHES * MOST_BANKS];

        void clear() {
            bankCount = 1;
            rowCount = 1;
            columnCount = 1;
            System.arraycopy(USUAL_SETTINGS, 0, settings, 0, SETTINGS);
            batchCount = 0;
            commandCount = 0;
            Arrays.fill(reads, 0);
            Arrays.fill(writes, 0);
        }

        void beginBatch(int bankSet) {
            bankSets[batchCount] = bankSet;
            begins[batchCount] = commandCount;
        }

        void endBatch() {
            ends[batchCount] = commandCount;
            for (int command = begins[batchCount]; command < commandCount; command++) {
                delays[command] = delayOf(command);
                noteUses(command);
            }
            batchCount++;
        }

        private int delayOf(int command) {
            int computing = settings[operations[command] == MUL ? MULTIPLY : COMPUTE];
            switch (verbs[command]) {
                case LOAD:
                case STORE:
                    return settings[ACCESS];
                case SET:
                    return 1;
                case OPERATE:
                    return computing;
                case LANES:
                    return combiningSteps(columnCount) * computing;
                case REDUCE:
                    return combiningSteps(Integer.bitCount(bankSets[batchCount]))
                            * settings[REDUCE];
                case BROADCAST:
                    return settings[TRANSFER];
                default:
                    return 0;
            }
        }

        private void noteUses(int command) {
            int bankSet = bankSets[batchCount];
            int lowest = lowestBank(bankSet);
            for (int bank = lowest; bank < MOST_BANKS; bank++) {
                if (isIn(bank, bankSet)) {
                    int place = batchCount * MOST_BANKS + bank;
                    reads[place] |= readBy(command, bank == lowest);
                    writes[place] |= writtenBy(command, bank == lowest);
                }
            }
        }

        private int readBy(int command, boolean isLowest) {
            switch (verbs[command]) {
                case LOAD:
                    return rowBit(lefts[command]);
                case OPERATE:
                    return 1 << lefts[command] | 1 << rights[command];
                case STORE:
                case LANES:
                case REDUCE:
                    return 1 << targets[command];
                case BROADCAST:
                    return isLowest ? 1 << targets[command] : 0;
                default:
                    return 0;
            }
        }

        private int writtenBy(int command, boolean isLowest) {
            switch (verbs[command]) {
                case STORE:
                    return rowBit(lefts[command]);
                case LOAD:
                case SET:
                case OPERATE:
                case LANES:
                    return 1 << targets[command];
                case REDUCE:
                    return isLowest ? 1 << targets[command] : 0;
                case BROADCAST:
                    return isLowest ? 0 : 1 << targets[command];
                default:
                    return 0;
            }
        }

        private static int rowBit(int row) {
            return 1 << REGISTERS + row;
        }

        boolean accessesRow(int batch, int bank, int row) {
            int place = batch * MOST_BANKS + bank;
            return ((reads[place] | writes[place]) & rowBit(row)) != 0;
        }

        boolean storesRow(int batch, int bank, int row) {
            return (writes[batch * MOST_BANKS + bank] & rowBit(row)) != 0;
        }

        boolean areConflicting(int first, int second) {
            for (int bank = 0; bank < MOST_BANKS; bank++) {
                int one = first * MOST_BANKS + bank;
                int other = second * MOST_BANKS + bank;
                if ((writes[one] & (reads[other] | writes[other])) != 0
                        || (writes[other] & reads[one]) != 0) {
                    return true;
                }
            }
            return false;
        }
    }

    /** The tokens of a text, with one that stands for the end behind them. */
    private static final class Tokens {
        final int[] kinds = new int[MOST_TEXT + 1];
        final int[] starts = new int[MOST_TEXT + 1];
        final int[] numbers = new int[MOST_TEXT + 1];
        int count;

        void scan(int[] text, int length) {
            count = 0;
            for (int place = 0; place < length; place++) {
                int sign = text[place];
                // A run of letters or digits is one token, which begins behind another sign.
                int before = place > 0 ? text[place - 1] : ' ';
                if (isLetter(sign)) {
                    if (!isLetter(before)) {
                        addWord(text, place, length);
                    }
                } else if (isDigit(sign)) {
                    if (!isDigit(before)) {
                        addNumber(text, place, length);
                    }
                } else if (!isBlank(sign)) {
                    addToken(kindOfSign(sign), place, 0);
                }
            }
            addToken(TEXT_END, length, 0);
        }

        private void addToken(int kind, int start, int number) {
            kinds[count] = kind;
            starts[count] = start;
            numbers[count] = number;
            count++;
        }

        private void addWord(int[] text, int start, int length) {
            int end = start;
            while (end < length && isLetter(text[end])) {
                end++;
            }
            addToken(kindOfWord(text, start, end), start, 0);
        }

        private void addNumber(int[] text, int start, int length) {
            int number = 0;
            int end = start;
            while (end < length && isDigit(text[end])) {
                number = number * 10 + text[end] - '0';
                end++;
            }
            addToken(end - start <= MOST_DIGITS ? NUMBER : NO_TOKEN, start, number);
        }

        private static int kindOfWord(int[] text, int start, int end) {
            int index = 0;
            int first = 0;
            for (int at = 0; at < WORDS.length(); at++) {
                if (WORDS.charAt(at) == ' ') {
                    if (at - first == end - start && isWordAt(first, text, start, end)) {
                        return index;
                    }
                    index++;
                    first = at + 1;
                }
            }
            return NO_TOKEN;
        }

        private static boolean isWordAt(int first, int[] text, int start, int end) {
            for (int at = start; at < end; at++) {
                if (text[at] != WORDS.charAt(first + at - start)) {
                    return false;
                }
            }
            return true;
        }

        private static int kindOfSign(int sign) {
            switch (sign) {
                case ':':
                    return COLON;
                case ';':
                    return SEMICOLON;
                case '-':
                    return MINUS;
                default:
                    return NO_TOKEN;
            }
        }

        private static boolean isBlank(int sign) {
            return sign == 10 || sign == 32;
        }

        private static boolean isLetter(int sign) {
            return sign >= 'a' && sign <= 'z';
        }

        private static boolean isDigit(int sign) {
            return sign >= '0' && sign <= '9';
        }
    }

    /**
     * Reads a program from a text. At the first error it stops to go forward; what it still does
     * then has no effect on the error, keeps to numbers that are in range, and ends.
     */
    private static final class Parser {
        private final Tokens tokens = new Tokens();
        private Program program;
        // The place of the present token among the tokens, what it is, and its place in the text.
        private int place;
        private int kind;
        private int start;
        int errorCode;
        int errorPosition;

        void parse(int[] text, int length, Program target) {
            tokens.scan(text, length);
            program = target;
            program.clear();
            errorCode = NO_ERROR;
            errorPosition = NONE;
            goTo(0);
            parseSizes();
            parseSettings();
            // A batch too many is an error, and so there is a turn for it.
            for (int turn = 0; turn <= MOST_BATCHES; turn++) {
                if (errorCode == NO_ERROR && kind != TEXT_END) {
                    parseBatch();
                }
            }
        }

        private void parseSizes() {
            take(BANKS);
            program.bankCount = takeNumber(1, MOST_BANKS);
            take(ROWS);
            program.rowCount = takeNumber(1, MOST_ROWS);
            take(COLUMNS);
            program.columnCount = takeNumber(1, MOST_COLUMNS);
            take(SEMICOLON);
        }

        private void parseSettings() {
            int seen = 0;
            // A setting too many has been seen already, and so there is a turn for it.
            for (int turn = 0; turn <= SETTINGS; turn++) {
                int setting = kind;
                if (errorCode != NO_ERROR || setting >= SETTINGS) {
                    return;
                }
                if ((seen >> setting & 1) != 0) {
                    fail(REPEATED, start);
                    return;
                }
                seen |= 1 << setting;
                take(setting);
                program.settings[setting] =
                        takeNumber(LEAST_SETTINGS[setting], MOST_SETTINGS[setting]);
                take(SEMICOLON);
            }
        }

        private void parseBatch() {
            if (kind != BATCH) {
                fail(WRONG_TOKEN, start);
                return;
            }
            if (program.batchCount >= MOST_BATCHES) {
                fail(TOO_MANY, start);
                return;
            }
            take(BATCH);
            program.beginBatch(takeBanks());
            take(COLON);
            // A command too many is an error, and so there is a turn for it.
            for (int turn = 0; turn <= MOST_COMMANDS; turn++) {
                if (errorCode == NO_ERROR && kind != END) {
                    parseCommand();
                }
            }
            take(END);
            take(SEMICOLON);
            program.endBatch();
        }

        private int takeBanks() {
            int bankSet = 0;
            // A bank too many is in the batch already, and so there is a turn for it.
            for (int turn = 0; turn <= MOST_BANKS; turn++) {
                boolean isEnd = turn > 0 && kind == COLON;
                if (errorCode != NO_ERROR || isEnd) {
                    return bankSet;
                }
                int bankStart = start;
                int bank = takeNumber(0, program.bankCount - 1);
                if (isIn(bank, bankSet)) {
                    fail(REPEATED, bankStart);
                }
                bankSet |= 1 << bank;
            }
            return bankSet;
        }

        private void parseCommand() {
            int word = kind;
            if (word < REDUCE || word > SUB) {
                fail(WRONG_TOKEN, start);
                return;
            }
            int command = program.commandCount;
            if (command >= MOST_COMMANDS) {
                fail(TOO_MANY, start);
                return;
            }
            take(word);
            program.verbs[command] = word < ADD ? word : OPERATE;
            program.operations[command] = word;
            parseOperands(command);
            take(SEMICOLON);
            program.commandCount++;
        }

        private void parseOperands(int command) {
            int verb = program.verbs[command];
            if (verb == BARRIER) {
                return;
            }
            if (verb == REDUCE || verb == LANES) {
                program.operations[command] = takeReduction();
            }
            program.targets[command] = takeNumber(0, REGISTERS - 1);
            if (verb == LOAD || verb == STORE) {
                program.lefts[command] = takeNumber(0, program.rowCount - 1);
            } else if (verb == SET) {
                program.lefts[command] = takeSignedNumber();
            } else if (verb == OPERATE) {
                program.lefts[command] = takeNumber(0, REGISTERS - 1);
                program.rights[command] = takeNumber(0, REGISTERS - 1);
            }
        }

        private int takeReduction() {
            int operation = kind;
            if (operation < ADD || operation > XOR) {
                fail(WRONG_TOKEN, start);
                return ADD;
            }
            take(operation);
            return operation;
        }

        private int takeSignedNumber() {
            if (kind != MINUS) {
                return takeNumber(0, MOST_NUMBER);
            }
            take(MINUS);
            return -takeNumber(0, MOST_NUMBER);
        }

        /** Returns the number that stands there, or the least one if there is an error. */
        private int takeNumber(int least, int most) {
            int number = tokens.numbers[place];
            if (kind != NUMBER) {
                fail(WRONG_TOKEN, start);
            } else if (number < least || number > most) {
                fail(OUT_OF_RANGE, start);
            } else if (errorCode == NO_ERROR) {
                goTo(place + 1);
                return number;
            }
            return least;
        }

        private void take(int wanted) {
            if (kind != wanted) {
                fail(WRONG_TOKEN, start);
            } else if (errorCode == NO_ERROR) {
                goTo(place + 1);
            }
        }

        /** Goes to a token. That of the end is never taken, so that each taken one has a next. */
        private void goTo(int newPlace) {
            place = newPlace;
            kind = tokens.kinds[place];
            start = tokens.starts[place];
        }

        private void fail(int code, int position) {
            if (errorCode == NO_ERROR) {
                errorCode = code;
                errorPosition = position;
            }
        }
    }

    /** The words of all rows and the lanes of all registers. */
    private static final class Values {
        final int[] words = new int[MOST_BANKS * MOST_ROWS * MOST_COLUMNS];
        final int[] lanes = new int[MOST_BANKS * REGISTERS * MOST_COLUMNS];

        void clear() {
            Arrays.fill(words, 0);
            Arrays.fill(lanes, 0);
        }

        void copyFrom(Values other) {
            System.arraycopy(other.words, 0, words, 0, words.length);
            System.arraycopy(other.lanes, 0, lanes, 0, lanes.length);
        }

        void runBatch(Program program, int batch) {
            int bankSet = program.bankSets[batch];
            int lowest = lowestBank(bankSet);
            for (int command = program.begins[batch]; command < program.ends[batch]; command++) {
                for (int bank = lowest; bank < MOST_BANKS; bank++) {
                    if (isIn(bank, bankSet)) {
                        execute(program, command, bank, lowest);
                    }
                }
            }
        }

        private void execute(Program program, int command, int bank, int lowest) {
            int left = program.lefts[command];
            int target = lanePlace(bank, program.targets[command], 0);
            int lowestTarget = lanePlace(lowest, program.targets[command], 0);
            switch (program.verbs[command]) {
                case LOAD:
                    copyWords(words, wordPlace(bank, left, 0), lanes, target);
                    break;
                case STORE:
                    copyWords(lanes, target, words, wordPlace(bank, left, 0));
                    break;
                case SET:
                    setLanes(target, left);
                    break;
                case OPERATE:
                    combineRegisters(
                            program,
                            command,
                            target,
                            lanePlace(bank, left, 0),
                            lanePlace(bank, program.rights[command], 0));
                    break;
                case LANES:
                    combineLanes(program, command, target);
                    break;
                case REDUCE:
                    if (bank != lowest) {
                        combineRegisters(program, command, lowestTarget, lowestTarget, target);
                    }
                    break;
                case BROADCAST:
                    copyWords(lanes, lowestTarget, lanes, target);
                    break;
                default:
                    break;
            }
        }

        private void setLanes(int target, int number) {
            for (int lane = 0; lane < MOST_COLUMNS; lane++) {
                lanes[target + lane] = number;
            }
        }

        private void combineRegisters(
                Program program, int command, int target, int left, int right) {
            int operation = program.operations[command];
            for (int lane = 0; lane < program.columnCount; lane++) {
                lanes[target + lane] = combine(operation, lanes[left + lane], lanes[right + lane]);
            }
        }

        private void combineLanes(Program program, int command, int target) {
            int operation = program.operations[command];
            for (int lane = 1; lane < program.columnCount; lane++) {
                lanes[target] = combine(operation, lanes[target], lanes[target + lane]);
            }
        }
    }

    /** The clocks, ready times, open rows and stalls of all banks. */
    private static final class Times {
        final int[] clocks = new int[MOST_BANKS];
        final int[] readies = new int[MOST_BANKS * REGISTERS];
        final int[] openRows = new int[MOST_BANKS];
        final int[] activationCounts = new int[MOST_BANKS];
        // The starts of the latest activations of each bank; no budget looks farther back.
        final int[] starts = new int[MOST_BANKS * MOST_BUDGET];
        final int[] stalled = new int[MOST_BANKS * STALL_KINDS];
        final int[] executed = new int[MOST_BANKS];

        void clear() {
            Arrays.fill(clocks, 0);
            Arrays.fill(readies, 0);
            Arrays.fill(openRows, NONE);
            Arrays.fill(activationCounts, 0);
            Arrays.fill(starts, 0);
            Arrays.fill(stalled, 0);
            Arrays.fill(executed, 0);
        }

        void copyFrom(Times other) {
            System.arraycopy(other.clocks, 0, clocks, 0, clocks.length);
            System.arraycopy(other.readies, 0, readies, 0, readies.length);
            System.arraycopy(other.openRows, 0, openRows, 0, openRows.length);
            System.arraycopy(
                    other.activationCounts, 0, activationCounts, 0, activationCounts.length);
            System.arraycopy(other.starts, 0, starts, 0, starts.length);
            System.arraycopy(other.stalled, 0, stalled, 0, stalled.length);
            System.arraycopy(other.executed, 0, executed, 0, executed.length);
        }

        int earliestClock(int bankSet) {
            int earliest = clocks[lowestBank(bankSet)];
            for (int bank = 0; bank < MOST_BANKS; bank++) {
                if (isIn(bank, bankSet)) {
                    earliest = Math.min(earliest, clocks[bank]);
                }
            }
            return earliest;
        }

        /** Returns the greatest of the clocks and ready times of some banks. */
        int latest(int bankSet) {
            int latest = 0;
            for (int bank = 0; bank < MOST_BANKS; bank++) {
                if (isIn(bank, bankSet)) {
                    latest = Math.max(latest, clocks[bank]);
                    for (int register = 0; register < REGISTERS; register++) {
                        latest = Math.max(latest, readies[bank * REGISTERS + register]);
                    }
                }
            }
            return latest;
        }

        void runBatch(Program program, int batch, int budget) {
            int bankSet = program.bankSets[batch];
            int end = program.ends[batch];
            for (int command = program.begins[batch]; command < end; command++) {
                if (isJoint(program.verbs[command])) {
                    executeJointly(program, command, bankSet);
                } else {
                    executeApart(program, command, bankSet, budget);
                }
            }
            noteExecuted(bankSet, end - program.begins[batch]);
        }

        private void noteExecuted(int bankSet, int commandCount) {
            for (int bank = 0; bank < MOST_BANKS; bank++) {
                if (isIn(bank, bankSet)) {
                    executed[bank] += commandCount;
                }
            }
        }

        private static boolean isJoint(int verb) {
            return verb == REDUCE || verb == BROADCAST || verb == BARRIER;
        }

        private void executeJointly(Program program, int command, int bankSet) {
            int verb = program.verbs[command];
            int target = program.targets[command];
            int meeting = verb == BARRIER ? latest(bankSet) : latestOf(target, bankSet);
            int end = meeting + program.delays[command];
            int lowest = lowestBank(bankSet);
            for (int bank = lowest; bank < MOST_BANKS; bank++) {
                if (isIn(bank, bankSet)) {
                    stalled[bank * STALL_KINDS + SYNCHRONIZATION] += meeting - clocks[bank];
                    clocks[bank] = end;
                    if (verb == BROADCAST || verb == REDUCE && bank == lowest) {
                        readies[bank * REGISTERS + target] = end;
                    }
                }
            }
        }

        private int latestOf(int register, int bankSet) {
            int latest = 0;
            for (int bank = 0; bank < MOST_BANKS; bank++) {
                if (isIn(bank, bankSet)) {
                    int ready = readies[bank * REGISTERS + register];
                    latest = Math.max(latest, Math.max(clocks[bank], ready));
                }
            }
            return latest;
        }

        private void executeApart(Program program, int command, int bankSet, int budget) {
            for (int bank = 0; bank < MOST_BANKS; bank++) {
                if (isIn(bank, bankSet)) {
                    int begin = beginOf(program, command, bank);
                    stalled[bank * STALL_KINDS + HAZARDS] += begin - clocks[bank];
                    execute(program, command, bank, openFor(program, command, bank, begin, budget));
                }
            }
        }

        private int beginOf(Program program, int command, int bank) {
            int first = bank * REGISTERS;
            int begin = Math.max(clocks[bank], readies[first + program.targets[command]]);
            if (program.verbs[command] == OPERATE) {
                begin = Math.max(begin, readies[first + program.lefts[command]]);
                begin = Math.max(begin, readies[first + program.rights[command]]);
            }
            return begin;
        }

        private void execute(Program program, int command, int bank, int begin) {
            int end = begin + program.delays[command];
            if (program.verbs[command] == STORE) {
                clocks[bank] = end;
            } else {
                clocks[bank] = begin + 1;
                readies[bank * REGISTERS + program.targets[command]] = end;
            }
        }

        /** Opens the row of a command, if it has one, and returns when the command can go on. */
        private int openFor(Program program, int command, int bank, int begin, int budget) {
            int verb = program.verbs[command];
            int row = program.lefts[command];
            if (verb != LOAD && verb != STORE || openRows[bank] == row) {
                return begin;
            }
            int start = begin;
            int earlier = activationCounts[bank];
            if (earlier >= budget) {
                int bounding = starts[startPlace(bank, earlier - budget)];
                start = Math.max(begin, bounding + program.settings[WINDOW]);
            }
            starts[startPlace(bank, earlier)] = start;
            activationCounts[bank]++;
            openRows[bank] = row;
            stalled[bank * STALL_KINDS + ACTIVATIONS] += program.settings[ACTIVATE];
            stalled[bank * STALL_KINDS + BUDGET_WAITS] += start - begin;
            return start + program.settings[ACTIVATE];
        }

        private static int startPlace(int bank, int activation) {
            // Not %: the mask (MOST_BUDGET is a power of 2) keeps to the bank's places even when
            // the count has wrapped around.
            return bank * MOST_BUDGET + (activation & MOST_BUDGET - 1);
        }
    }

    /** The cache of the host. */
    private static final class Cache {
        // Which row of all banks a line copies, NONE for a free line.
        final int[] rows = new int[MOST_LINES];
        final boolean[] isDirty = new boolean[MOST_LINES];
        final int[] uses = new int[MOST_LINES];
        final int[] words = new int[MOST_LINES * MOST_COLUMNS];
        int hits;
        int misses;
        int writeBacks;

        void clear() {
            for (int line = 0; line < MOST_LINES; line++) {
                removeLine(line);
            }
            hits = 0;
            misses = 0;
            writeBacks = 0;
        }

        void copyFrom(Cache other) {
            for (int line = 0; line < MOST_LINES; line++) {
                rows[line] = other.rows[line];
                isDirty[line] = other.isDirty[line];
                uses[line] = other.uses[line];
            }
            System.arraycopy(other.words, 0, words, 0, words.length);
            hits = other.hits;
            misses = other.misses;
            writeBacks = other.writeBacks;
        }

        int lineCount() {
            int lines = 0;
            for (int line = 0; line < MOST_LINES; line++) {
                if (rows[line] != NONE) {
                    lines++;
                }
            }
            return lines;
        }

        int lineOf(int bank, int row) {
            return lineWith(bank * MOST_ROWS + row);
        }

        private int lineWith(int content) {
            for (int line = 0; line < MOST_LINES; line++) {
                if (rows[line] == content) {
                    return line;
                }
            }
            return NONE;
        }

        /** Counts a hit or a miss and returns the line of the row; NONE if no line is permitted. */
        int useLine(int bank, int row, int permitted, Values values) {
            int line = lineOf(bank, row);
            if (line != NONE) {
                hits++;
            } else {
                misses++;
                if (permitted == 0) {
                    return NONE;
                }
                line = makeLine(bank * MOST_ROWS + row, permitted, values);
            }
            // Each access counts a hit or a miss, so that their sum is a time.
            uses[line] = hits + misses;
            return line;
        }

        private int makeLine(int row, int permitted, Values values) {
            int line = lineCount() < permitted ? lineWith(NONE) : oldestLine();
            writeBack(line, values);
            rows[line] = row;
            isDirty[line] = false;
            copyWords(values.words, row * MOST_COLUMNS, words, line * MOST_COLUMNS);
            return line;
        }

        private int oldestLine() {
            int oldest = 0;
            for (int line = 1; line < MOST_LINES; line++) {
                boolean isOlder = rows[oldest] == NONE || uses[line] < uses[oldest];
                if (rows[line] != NONE && isOlder) {
                    oldest = line;
                }
            }
            return oldest;
        }

        /** Copies a line, if there is one and it is dirty, to its row; returns whether it was. */
        boolean writeBack(int line, Values values) {
            if (line == NONE || rows[line] == NONE || !isDirty[line]) {
                return false;
            }
            copyWords(words, line * MOST_COLUMNS, values.words, rows[line] * MOST_COLUMNS);
            isDirty[line] = false;
            writeBacks++;
            return true;
        }

        /** Removes a line without writing it back; returns whether there was one. */
        boolean removeLine(int line) {
            if (line == NONE) {
                return false;
            }
            rows[line] = NONE;
            return true;
        }

        boolean differs(int line, int columnCount, Values values) {
            for (int column = 0; column < columnCount; column++) {
                if (words[line * MOST_COLUMNS + column]
                        != values.words[rows[line] * MOST_COLUMNS + column]) {
                    return true;
                }
            }
            return false;
        }

        void writeBackAccessed(Program program, int batch, Values values) {
            for (int line = 0; line < MOST_LINES; line++) {
                int row = rows[line];
                if (row != NONE
                        && program.accessesRow(batch, row / MOST_ROWS, row % MOST_ROWS)) {
                    writeBack(line, values);
                }
            }
        }

        void removeStored(Program program, int batch) {
            for (int line = 0; line < MOST_LINES; line++) {
                int row = rows[line];
                if (row != NONE && program.storesRow(batch, row / MOST_ROWS, row % MOST_ROWS)) {
                    removeLine(line);
                }
            }
        }
    }

    /** The batches that wait, and the runs that were. */
    private static final class Agenda {
        final int[] queue = new int[MOST_QUEUED];
        int length;
        // Batch, begin and end of each of the latest runs.
        final int[] runs = new int[KEPT_RUNS * RUN_FACTS];
        int runCount;

        void clear() {
            length = 0;
            runCount = 0;
        }

        void copyFrom(Agenda other) {
            System.arraycopy(other.queue, 0, queue, 0, MOST_QUEUED);
            System.arraycopy(other.runs, 0, runs, 0, runs.length);
            length = other.length;
            runCount = other.runCount;
        }

        void addBatch(int batch) {
            queue[length] = batch;
            length++;
        }

        int takeFirst() {
            int batch = queue[0];
            length--;
            System.arraycopy(queue, 1, queue, 0, length);
            return batch;
        }

        void noteRun(int batch, int begin, int end) {
            // Not %: there has to be such a place even when the count has wrapped around.
            int place = Math.floorMod(runCount, KEPT_RUNS) * RUN_FACTS;
            runs[place] = batch;
            runs[place + 1] = begin;
            runs[place + 2] = end;
            runCount++;
        }
    }

    /** Everything that is saved in a slot. */
    private static final class State {
        final Values values = new Values();
        final Times times = new Times();
        final Cache cache = new Cache();
        final Agenda agenda = new Agenda();
        boolean isAutomatic;

        void clear() {
            values.clear();
            times.clear();
            cache.clear();
            agenda.clear();
            isAutomatic = false;
        }

        void copyFrom(State other) {
            copyValuesFrom(other);
            times.copyFrom(other.times);
            agenda.copyFrom(other.agenda);
        }

        void copyValuesFrom(State other) {
            values.copyFrom(other.values);
            cache.copyFrom(other.cache);
            isAutomatic = other.isAutomatic;
        }

        void runNext(Program program) {
            int batch = agenda.takeFirst();
            int bankSet = program.bankSets[batch];
            int begin = times.earliestClock(bankSet);
            computeBatch(program, batch);
            times.runBatch(program, batch, program.settings[BUDGET]);
            agenda.noteRun(batch, begin, times.latest(bankSet));
        }

        void computeBatch(Program program, int batch) {
            if (isAutomatic) {
                cache.writeBackAccessed(program, batch, values);
            }
            values.runBatch(program, batch);
            if (isAutomatic) {
                cache.removeStored(program, batch);
            }
        }
    }

    /** Looks at orders and chains of the queue. */
    private static final class Planner {
        // Whether the best order has been found and nothing has changed since that.
        private boolean isPlanned;
        int bestTime;
        final int[] bestPositions = new int[MOST_PLANNED];
        private final int[] positions = new int[MOST_PLANNED];
        private int taken;
        // For each position the bit set of those that have to come before it.
        private final int[] predecessors = new int[MOST_PLANNED];
        private final int[] newQueue = new int[MOST_PLANNED];
        private final int[] chains = new int[MOST_QUEUED];
        // The times after as many runs as the index says.
        private final Times[] levels = new Times[MOST_PLANNED + 1];
        private Program program;
        private Agenda agenda;

        Planner() {
            for (int depth = 0; depth <= MOST_PLANNED; depth++) {
                levels[depth] = new Times();
            }
        }

        void forgetPlan() {
            isPlanned = false;
        }

        /** Finds the best order; the queue has at most MOST_PLANNED batches. */
        void plan(Program newProgram, State now) {
            if (isPlanned) {
                return;
            }
            isPlanned = true;
            program = newProgram;
            agenda = now.agenda;
            bestTime = NEVER;
            taken = 0;
            levels[0].copyFrom(now.times);
            findPredecessors();
            extend(0);
        }

        private void findPredecessors() {
            for (int later = 0; later < agenda.length; later++) {
                predecessors[later] = 0;
                for (int earlier = 0; earlier < later; earlier++) {
                    int one = agenda.queue[earlier];
                    int other = agenda.queue[later];
                    // To exchange the same batch with itself changes no time, and the order
                    // with the earlier position first is the lexicographically lesser one.
                    if (one == other || program.areConflicting(one, other)) {
                        predecessors[later] |= 1 << earlier;
                    }
                }
            }
        }

        /** Tries all orders behind the first ones, in lexicographic order. */
        private void extend(int depth) {
            if (depth >= agenda.length || depth >= MOST_PLANNED) {
                keepOrder(depth);
                return;
            }
            for (int position = 0; position < agenda.length; position++) {
                boolean isTaken = (taken >> position & 1) != 0;
                if (!isTaken && (predecessors[position] & ~taken) == 0) {
                    place(position, depth);
                }
            }
        }

        private void place(int position, int depth) {
            Times after = levels[depth + 1];
            after.copyFrom(levels[depth]);
            after.runBatch(program, agenda.queue[position], program.settings[BUDGET]);
            // No run makes the finish less, so what is not better now will not be better.
            if (after.latest(ALL_BANKS) >= bestTime) {
                return;
            }
            positions[depth] = position;
            taken |= 1 << position;
            extend(depth + 1);
            taken &= ~(1 << position);
        }

        private void keepOrder(int length) {
            bestTime = levels[length].latest(ALL_BANKS);
            System.arraycopy(positions, 0, bestPositions, 0, length);
        }

        /** Puts the queue into the order that was found for it. */
        void applyTo(Agenda planned) {
            for (int index = 0; index < planned.length; index++) {
                newQueue[index] = planned.queue[bestPositions[index]];
            }
            System.arraycopy(newQueue, 0, planned.queue, 0, planned.length);
        }

        int chainLength(Program current, Agenda waiting) {
            int longest = 0;
            for (int last = 0; last < waiting.length; last++) {
                chains[last] = 1;
                for (int before = 0; before < last; before++) {
                    if (chains[before] >= chains[last]
                            && current.areConflicting(waiting.queue[before], waiting.queue[last])) {
                        chains[last] = chains[before] + 1;
                    }
                }
                longest = Math.max(longest, chains[last]);
            }
            return longest;
        }
    }
}
