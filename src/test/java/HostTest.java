/** Promises 13 to 20: the host and its cache. */
public final class HostTest {
    private static final Checks CHECKS = new Checks();
    // Batch 0 loads row 0 of both banks, batch 1 stores row 1 of bank 0, batch 2 loads and stores
    // row 2 of bank 1.
    private static final String PROGRAM = "banks 2 rows 4 columns 2; cache 2;"
            + "batch 0 1: load 0 0; end; batch 0: set 1 50; store 1 1; end;"
            + "batch 1: load 2 2; set 3 1; add 2 2 3; store 2 2; end;";

    public static void main(String[] args) {
        readAndWrite();
        leastRecentlyUsed();
        evictionWritesBack();
        onlyAccessesAreUses();
        withoutCache();
        eightLines();
        flushing();
        flushingAll();
        invalidation();
        lineStates();
        counters();
        manualCoherence();
        coherenceBefore();
        coherenceAfter();
        coherenceSwitch();
        wrongArguments();
        CHECKS.end();
    }

    private static void due(String name, Object got, Object want) {
        CHECKS.due(name, got, want);
    }

    private static void readAndWrite() {
        ProcessingMemory x = Checks.with(PROGRAM);
        x.fill(0, 0, 7, 1);
        due("13: from the row", x.hostRead(0, 0, 1), 8);
        x.fill(0, 0, 20, 1);
        due("13: from the line", x.hostRead(0, 0, 1), 8);
        due("14: the previous word of the line", x.hostWrite(0, 0, 0, 30), 7);
        due("14: the next one", x.hostWrite(0, 0, 0, 31), 30);
        due("13: what was written", x.hostRead(0, 0, 0), 31);
        due("14: the row stays", x.memory(0, 0, 0), 20);
        due("14: on a miss", x.hostWrite(1, 0, 0, Integer.MIN_VALUE), 0);
        due("13: extreme", x.hostRead(1, 0, 0), Integer.MIN_VALUE);
        due("19: hits", x.cache(0), 5);
        due("19: misses", x.cache(1), 2);
    }

    private static void leastRecentlyUsed() {
        ProcessingMemory x = Checks.with(PROGRAM);
        x.hostRead(0, 0, 0);
        x.hostRead(0, 1, 0);
        x.hostRead(0, 0, 1);
        x.hostRead(0, 2, 0);
        due("13: used again", x.line(0, 0), 1);
        due("13: least recently used", x.line(0, 1), 0);
        due("13: new", x.line(0, 2), 1);
        x.hostWrite(1, 0, 0, 1);
        due("14: least recently used", x.line(0, 0), 0);
        due("7: full", x.count(6), 2);
    }

    private static void evictionWritesBack() {
        ProcessingMemory x = Checks.with(PROGRAM);
        x.fill(0, 0, 1, 1);
        x.hostWrite(0, 0, 0, 9);
        x.fill(0, 0, 5, 5);
        x.hostRead(0, 1, 0);
        due("13: not yet", x.memory(0, 0, 0), 5);
        x.hostRead(0, 2, 0);
        due("13: written back", x.memory(0, 0, 0), 9);
        due("13: all words", x.memory(0, 0, 1), 2);
        due("19: counted", x.cache(2), 1);
        x.fill(0, 1, 7, 7);
        x.hostRead(0, 3, 0);
        due("13: a clean line is not written back", x.memory(0, 1, 0), 7);
        due("19: not counted", x.cache(2), 1);
    }

    private static void onlyAccessesAreUses() {
        ProcessingMemory x = Checks.with(PROGRAM);
        x.hostWrite(0, 0, 0, 1);
        x.hostRead(0, 1, 0);
        x.flush(0, 0);
        x.line(0, 0);
        x.flushAll();
        Checks.runAll(x, 0);
        x.fill(0, 0, 1, 1);
        x.hostRead(0, 2, 0);
        due("13: no use by flush, line, run or fill", x.line(0, 0), 0);
    }

    private static void withoutCache() {
        ProcessingMemory x = Checks.with("banks 1 rows 2 columns 2; cache 0;");
        x.fill(0, 0, 3, 4);
        due("13: of the row", x.hostRead(0, 0, 1), 7);
        due("14: the previous word of the row", x.hostWrite(0, 0, 1, 11), 7);
        due("14: the row itself", x.memory(0, 0, 1), 11);
        due("13: again", x.hostRead(0, 0, 1), 11);
        due("19: no hits", x.cache(0), 0);
        due("19: misses", x.cache(1), 3);
        due("19: nothing written back", x.cache(2), 0);
        due("7: no lines", x.count(6), 0);
        due("18: no line", x.line(0, 0), 0);
        due("15: nothing to flush", x.flush(0, 0), false);
        due("16: nothing to flush", x.flushAll(), 0);
        due("17: nothing to remove", x.invalidate(0, 0), false);
    }

    private static void eightLines() {
        ProcessingMemory x = Checks.with("banks 1 rows 16 columns 1; cache 8;");
        for (int row = 0; row < 9; row++) {
            x.hostWrite(0, row, 0, row + 1);
        }
        due("7: eight lines", x.count(6), 8);
        due("14: the first one is written back", x.memory(0, 0, 0), 1);
        due("14: the second one is not", x.memory(0, 1, 0), 0);
        due("16: all others", x.flushAll(), 8);
        ProcessingMemory y = Checks.with("banks 1 rows 16 columns 1;");
        for (int row = 0; row < 16; row++) {
            y.hostRead(0, row, 0);
        }
        due("7: four lines without the setting", y.count(6), 4);
    }

    private static void flushing() {
        ProcessingMemory x = Checks.with(PROGRAM);
        due("15: no line", x.flush(1, 3), false);
        x.hostRead(1, 3, 0);
        due("15: clean", x.flush(1, 3), false);
        x.hostWrite(1, 3, 0, 4);
        due("15: dirty", x.flush(1, 3), true);
        due("15: in the row", x.memory(1, 3, 0), 4);
        due("15: clean afterwards", x.line(1, 3), 1);
        due("15: once", x.flush(1, 3), false);
        x.hostWrite(1, 3, 0, 4);
        due("14: dirty, although the word stays the same", x.line(1, 3), 2);
        due("15: written back again", x.flush(1, 3), true);
        due("19: twice", x.cache(2), 2);
    }

    private static void flushingAll() {
        ProcessingMemory x = Checks.with("banks 2 rows 2 columns 1;");
        due("16: empty", x.flushAll(), 0);
        x.hostWrite(0, 0, 0, 1);
        x.hostRead(0, 1, 0);
        x.hostWrite(1, 1, 0, 2);
        due("16: two", x.flushAll(), 2);
        due("16: first", x.memory(0, 0, 0), 1);
        due("16: second", x.memory(1, 1, 0), 2);
        due("16: clean", x.line(1, 1), 1);
        due("16: none is left", x.flushAll(), 0);
        due("7: the lines stay", x.count(6), 3);
        due("19: counted", x.cache(2), 2);
    }

    private static void invalidation() {
        ProcessingMemory x = Checks.with(PROGRAM);
        due("17: no line", x.invalidate(0, 0), false);
        x.hostWrite(0, 0, 0, 5);
        x.hostRead(0, 1, 0);
        due("17: a line", x.invalidate(0, 0), true);
        due("17: not written back", x.memory(0, 0, 0), 0);
        due("19: not counted", x.cache(2), 0);
        due("17: gone", x.line(0, 0), 0);
        due("7: one is left", x.count(6), 1);
        due("13: read anew", x.hostRead(0, 0, 0), 0);
        due("18: a line made anew is clean", x.line(0, 0), 1);
        due("18: the other one was not removed for it", x.line(0, 1), 1);
    }

    private static void lineStates() {
        ProcessingMemory x = Checks.with(PROGRAM);
        due("18: none", x.line(0, 0), 0);
        x.hostRead(0, 0, 0);
        due("18: clean", x.line(0, 0), 1);
        x.fill(0, 0, 0, 1);
        due("18: clean and different in the last word", x.line(0, 0), 5);
        x.hostWrite(0, 0, 1, 1);
        due("18: dirty and equal", x.line(0, 0), 2);
        x.hostWrite(0, 0, 0, 3);
        due("18: dirty and different", x.line(0, 0), 6);
        x.flush(0, 0);
        due("18: clean and equal", x.line(0, 0), 1);
    }

    private static void counters() {
        ProcessingMemory x = Checks.with(PROGRAM);
        x.hostRead(0, 0, 0);
        x.hostRead(0, 0, 1);
        x.hostWrite(0, 0, 0, 1);
        x.hostWrite(1, 0, 0, 1);
        x.flushAll();
        due("19: hits", x.cache(0), 2);
        due("19: misses", x.cache(1), 2);
        due("19: written back", x.cache(2), 2);
    }

    private static void manualCoherence() {
        ProcessingMemory x = Checks.with(PROGRAM);
        x.hostWrite(0, 0, 0, 5);
        x.hostRead(0, 1, 0);
        Checks.runAll(x, 0, 1);
        due("20: the row was loaded", x.register(0, 0, 0), 0);
        due("20: the line stays dirty", x.line(0, 0), 6);
        due("20: the line of a stored row stays", x.line(0, 1), 5);
        due("20: the host reads the old word", x.hostRead(0, 1, 0), 0);
    }

    private static void coherenceBefore() {
        ProcessingMemory x = Checks.with(PROGRAM);
        x.setCoherence(true);
        x.hostWrite(0, 0, 1, 5);
        x.hostWrite(1, 3, 1, 6);
        Checks.runAll(x, 0);
        due("20: written back before", x.register(0, 0, 1), 5);
        due("20: clean", x.line(0, 0), 1);
        due("20: another row is not", x.line(1, 3), 6);
        due("19: one", x.cache(2), 1);
        ProcessingMemory y = Checks.with(PROGRAM);
        y.setCoherence(true);
        y.hostWrite(1, 1, 0, 7);
        Checks.runAll(y, 1);
        due("20: a row of a bank that is not of the batch", y.line(1, 1), 6);
    }

    private static void coherenceAfter() {
        ProcessingMemory x = Checks.with(PROGRAM);
        x.setCoherence(true);
        x.hostWrite(0, 1, 0, 5);
        x.hostRead(1, 1, 0);
        Checks.runAll(x, 1);
        due("20: a stored row is written back before", x.cache(2), 1);
        due("20: and its line removed after", x.line(0, 1), 0);
        due("20: the row is the stored one", x.memory(0, 1, 0), 50);
        due("20: the same row of another bank", x.line(1, 1), 1);
        due("13: the host reads it", x.hostRead(0, 1, 1), 50);
        x.hostWrite(1, 2, 0, 40);
        Checks.runAll(x, 2);
        due("20: loaded and stored", x.memory(1, 2, 0), 41);
        due("20: removed", x.line(1, 2), 0);
    }

    private static void coherenceSwitch() {
        ProcessingMemory x = Checks.with(PROGRAM);
        due("20: manual at first", x.setCoherence(true), false);
        due("20: automatic", x.setCoherence(true), true);
        due("20: automatic still", x.setCoherence(false), true);
        due("20: manual again", x.setCoherence(false), false);
        x.setCoherence(true);
        x.hostWrite(0, 0, 0, 5);
        x.setCoherence(false);
        Checks.runAll(x, 0);
        due("20: as it is when a batch is run", x.line(0, 0), 6);
    }

    private static void wrongArguments() {
        ProcessingMemory x = Checks.with(PROGRAM);
        int[][] wrong = {
            {-1, 0, 0}, {2, 0, 0}, {0, -1, 0}, {0, 4, 0}, {0, 0, -1}, {0, 0, 2},
            {Integer.MAX_VALUE, 0, 0}, {0, Integer.MIN_VALUE, 0}, {0, 0, Integer.MAX_VALUE},
        };
        for (int[] w : wrong) {
            CHECKS.dueThrow("13", Checks.INDEX, () -> x.hostRead(w[0], w[1], w[2]));
            CHECKS.dueThrow("14", Checks.INDEX, () -> x.hostWrite(w[0], w[1], w[2], 1));
            if (w[2] == 0) {
                CHECKS.dueThrow("15", Checks.INDEX, () -> x.flush(w[0], w[1]));
                CHECKS.dueThrow("17", Checks.INDEX, () -> x.invalidate(w[0], w[1]));
                CHECKS.dueThrow("18", Checks.INDEX, () -> x.line(w[0], w[1]));
            }
        }
        for (int what : new int[] {-1, 3, Integer.MIN_VALUE, Integer.MAX_VALUE}) {
            CHECKS.dueThrow("19", Checks.ARGUMENT, () -> x.cache(what));
        }
        due("19: wrong accesses are no misses", x.cache(1), 0);
        due("7: and make no lines", x.count(6), 0);
    }
}
