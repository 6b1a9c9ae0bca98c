/** The boundary cases of 'THE CACHE OF THE HOST'. */
public final class CacheLimitsTest {
    private static final Checks CHECKS = new Checks();
    private static final int NO_SETTING = -1;

    public static void main(String[] args) {
        for (int lines = 1; lines <= 8; lines++) {
            fullCache(lines, lines);
            useByWriting(lines);
            useByReading(lines);
            dirtyLines(lines);
        }
        fullCache(NO_SETTING, 4);
        noLines();
        oneLine();
        roomByInvalidation();
        roomByCoherence();
        lastWords();
        wordsBesideTheColumns();
        firstAndLastRow();
        writeOfTheSameWord();
        coherenceOfAllLines();
        removedLinesAreNotWrittenBack();
        coherenceIsManualAtFirst();
        CHECKS.end();
    }

    private static void due(String name, Object got, Object want) {
        CHECKS.due(name, got, want);
    }

    private static ProcessingMemory with(int setting) {
        String text = setting == NO_SETTING ? "" : "cache " + setting + ";";
        return Checks.with("banks 1 rows 16 columns 1;" + text);
    }

    /** The last row that the cache can take, and the first one that it cannot. */
    private static void fullCache(int setting, int lines) {
        ProcessingMemory x = with(setting);
        for (int row = 0; row < lines; row++) {
            due("7: before row " + row, x.count(6), row);
            x.hostRead(0, row, 0);
        }
        due("7: full", x.count(6), lines);
        due("18: the first one is there", x.line(0, 0), 1);
        due("18: the last one is there", x.line(0, lines - 1), 1);
        x.hostRead(0, lines, 0);
        due("7: not more than full", x.count(6), lines);
        due("18: the first one is gone", x.line(0, 0), 0);
        due("18: the new one is there", x.line(0, lines), 1);
        for (int row = 1; row < lines; row++) {
            due("18: row " + row + " stays", x.line(0, row), 1);
        }
        due("19: no hits", x.cache(0), 0);
        due("19: misses", x.cache(1), lines + 1);
        due("19: clean lines are not written back", x.cache(2), 0);
    }

    private static void useByWriting(int lines) {
        ProcessingMemory x = with(lines);
        for (int row = 0; row < lines; row++) {
            x.hostRead(0, row, 0);
        }
        x.hostWrite(0, 0, 0, 5);
        x.hostWrite(0, lines, 0, 6);
        due("14: a write is a use", x.line(0, 0), lines == 1 ? 0 : 6);
        due("14: the next one is removed", x.line(0, 1), lines == 1 ? 6 : 0);
        due("19: hits", x.cache(0), 1);
    }

    private static void useByReading(int lines) {
        ProcessingMemory x = with(lines);
        for (int row = lines - 1; row >= 0; row--) {
            x.hostWrite(0, row, 0, row + 1);
        }
        due("13: from the line", x.hostRead(0, lines - 1, 0), lines);
        due("13: another row", x.hostRead(0, 15, 0), 0);
        due("13: a read is a use", x.line(0, lines - 1), lines == 1 ? 0 : 6);
        if (lines > 1) {
            due("13: the least recently used one is removed", x.line(0, lines - 2), 0);
            due("13: and written back", x.memory(0, lines - 2, 0), lines - 1);
            due("13: the other one is not", x.memory(0, lines - 1, 0), 0);
        }
        due("19: one", x.cache(2), 1);
    }

    private static void dirtyLines(int lines) {
        ProcessingMemory x = with(lines);
        for (int row = 0; row < 16; row++) {
            due("14: the previous word", x.hostWrite(0, row, 0, row + 1), 0);
            due("19: written back", x.cache(2), Math.max(0, row + 1 - lines));
        }
        for (int row = 0; row < 16; row++) {
            boolean isIn = row >= 16 - lines;
            due("18: row " + row, x.line(0, row), isIn ? 6 : 0);
            due("10: row " + row, x.memory(0, row, 0), isIn ? 0 : row + 1);
        }
        due("16: the others", x.flushAll(), lines);
        due("16: once", x.flushAll(), 0);
        due("19: all", x.cache(2), 16);
        due("10: the last row", x.memory(0, 15, 0), 16);
    }

    private static void noLines() {
        ProcessingMemory x = Checks.with("banks 2 rows 2 columns 2; cache 0;"
                + "batch 0 1: load 0 0; store 0 1; end;");
        x.setCoherence(true);
        due("14: the row itself", x.hostWrite(1, 0, 1, 5), 0);
        due("14: the previous word of the row", x.hostWrite(1, 0, 1, 5), 5);
        due("13: the row itself", x.hostRead(1, 0, 1), 5);
        x.fill(1, 0, 7, 1);
        due("13: the row itself", x.hostRead(1, 0, 1), 8);
        due("32: the row itself", x.wouldBe(1, 0, 1), 0);
        x.submit(0);
        due("32: the row itself", x.wouldBe(1, 0, 1), 8);
        x.run(1);
        due("13: what was stored", x.hostRead(1, 1, 0), 7);
        due("19: no hits", x.cache(0), 0);
        due("19: every access is a miss", x.cache(1), 5);
        due("19: nothing is written back", x.cache(2), 0);
        due("7: no lines", x.count(6), 0);
        due("18: no line", x.line(1, 0), 0);
        due("15: no line", x.flush(1, 0), false);
        due("16: no line", x.flushAll(), 0);
        due("17: no line", x.invalidate(1, 0), false);
    }

    private static void oneLine() {
        ProcessingMemory x = with(1);
        x.hostWrite(0, 3, 0, 9);
        due("18: dirty", x.line(0, 3), 6);
        due("13: the same row is a hit", x.hostRead(0, 3, 0), 9);
        due("10: not written back", x.memory(0, 3, 0), 0);
        x.hostRead(0, 4, 0);
        due("10: written back", x.memory(0, 3, 0), 9);
        due("13: again", x.hostRead(0, 3, 0), 9);
        due("18: clean", x.line(0, 3), 1);
        due("19: hits", x.cache(0), 1);
        due("19: misses", x.cache(1), 3);
        due("19: written back", x.cache(2), 1);
    }

    private static void roomByInvalidation() {
        for (int removed = 0; removed < 8; removed++) {
            ProcessingMemory x = with(8);
            for (int row = 0; row < 8; row++) {
                x.hostWrite(0, row, 0, 5);
            }
            due("17: row " + removed, x.invalidate(0, removed), true);
            due("17: once", x.invalidate(0, removed), false);
            x.hostRead(0, 15, 0);
            due("19: there was room", x.cache(2), 0);
            for (int row = 0; row < 8; row++) {
                due("18: row " + row, x.line(0, row), row == removed ? 0 : 6);
            }
            x.hostRead(0, 14, 0);
            due("19: there is no more", x.cache(2), 1);
            due("18: the oldest one", x.line(0, removed == 0 ? 1 : 0), 0);
        }
    }

    private static void roomByCoherence() {
        ProcessingMemory x = Checks.with("banks 1 rows 16 columns 1; cache 2;"
                + "batch 0: store 0 1; end;");
        x.setCoherence(true);
        x.hostRead(0, 0, 0);
        x.hostRead(0, 1, 0);
        Checks.runAll(x, 0);
        due("7: one was removed", x.count(6), 1);
        x.hostRead(0, 2, 0);
        due("18: there was room", x.line(0, 0), 1);
        x.fill(0, 0, 1, 1);
        due("7: one was removed by fill", x.count(6), 1);
        x.hostRead(0, 3, 0);
        due("18: there was room", x.line(0, 2), 1);
    }

    private static void lastWords() {
        for (int columns = 1; columns <= 8; columns++) {
            ProcessingMemory x = Checks.with("banks 8 rows 16 columns " + columns + "; cache 8;");
            for (int bank = 0; bank < 8; bank++) {
                x.hostWrite(bank, 15 - bank, columns - 1, 100 + bank);
            }
            for (int bank = 0; bank < 8; bank++) {
                due("18: only the last word differs", x.line(bank, 15 - bank), 6);
                due("13: the last word", x.hostRead(bank, 15 - bank, columns - 1), 100 + bank);
                due("10: not yet", x.memory(bank, 15 - bank, columns - 1), 0);
            }
            due("16: all", x.flushAll(), 8);
            for (int bank = 0; bank < 8; bank++) {
                due("10: the last word", x.memory(bank, 15 - bank, columns - 1), 100 + bank);
                due("18: equal", x.line(bank, 15 - bank), 1);
            }
        }
    }

    private static void wordsBesideTheColumns() {
        // No word of the row differs, whatever registers hold where there is no column.
        for (int columns = 1; columns <= 8; columns++) {
            ProcessingMemory x = Checks.with("banks 1 rows 1 columns " + columns
                    + "; batch 0: set 0 5; store 0 0; end;");
            x.fill(0, 0, 5, 0);
            x.hostRead(0, 0, 0);
            Checks.runAll(x, 0);
            due("18: equal in all words", x.line(0, 0), 1);
            x.hostWrite(0, 0, 0, 5);
            due("18: equal in all words", x.line(0, 0), 2);
        }
    }

    private static void firstAndLastRow() {
        ProcessingMemory x = Checks.with("banks 8 rows 16 columns 1; cache 2;");
        x.hostWrite(0, 0, 0, 1);
        x.hostWrite(7, 15, 0, 2);
        due("18: the same row of another bank", x.line(7, 0), 0);
        due("18: another row of the same bank", x.line(0, 15), 0);
        due("18: the first one", x.line(0, 0), 6);
        due("18: the last one", x.line(7, 15), 6);
        due("15: the last one", x.flush(7, 15), true);
        due("15: the first one", x.flush(0, 0), true);
        due("10: the last one", x.memory(7, 15, 0), 2);
        due("10: the first one", x.memory(0, 0, 0), 1);
        due("17: the last one", x.invalidate(7, 15), true);
        due("17: the first one", x.invalidate(0, 0), true);
        due("7: none", x.count(6), 0);
    }

    private static void writeOfTheSameWord() {
        ProcessingMemory x = with(1);
        due("14: a miss", x.hostWrite(0, 0, 0, 0), 0);
        due("18: dirty, also if the word stays the same", x.line(0, 0), 2);
        x.hostRead(0, 1, 0);
        due("19: and written back", x.cache(2), 1);
        x.hostWrite(0, 1, 0, 0);
        due("18: also on a hit", x.line(0, 1), 2);
        due("15: and flushed", x.flush(0, 1), true);
    }

    private static void coherenceOfAllLines() {
        ProcessingMemory x = Checks.with("banks 2 rows 4 columns 2; cache 8; batch 0 1: load 0 0;"
                + "load 0 1; load 1 2; load 2 3; store 1 1; store 2 0; end; batch 0: end;");
        x.setCoherence(true);
        for (int row = 0; row < 4; row++) {
            x.hostWrite(0, row, 0, row + 1);
            x.hostWrite(1, row, 1, row + 11);
        }
        Checks.runAll(x, 1);
        due("19: an empty batch needs none", x.cache(2), 0);
        Checks.runAll(x, 0);
        due("19: all were written back", x.cache(2), 8);
        due("7: those of stored rows are removed", x.count(6), 4);
        for (int bank = 0; bank < 2; bank++) {
            for (int row = 0; row < 4; row++) {
                due("18: row " + row, x.line(bank, row), row < 2 ? 0 : 1);
            }
        }
        due("12: loaded behind it", x.register(1, 0, 1), 12);
        due("10: stored", x.memory(0, 0, 0), 4);
        due("10: stored", x.memory(1, 1, 1), 13);
    }

    private static void removedLinesAreNotWrittenBack() {
        ProcessingMemory x = Checks.with("banks 1 rows 4 columns 1; batch 0: store 0 0; end;");
        for (int row = 0; row < 3; row++) {
            x.hostWrite(0, row, 0, 50 + row);
        }
        x.setCoherence(true);
        x.invalidate(0, 1);
        due("17: not written back", x.memory(0, 1, 0), 0);
        x.fill(0, 2, 7, 0);
        due("11: not written back", x.memory(0, 2, 0), 7);
        due("19: none", x.cache(2), 0);
        Checks.runAll(x, 0);
        due("20: the stored word stays", x.memory(0, 0, 0), 0);
        due("19: before the run alone", x.cache(2), 1);
        due("7: all are removed", x.count(6), 0);
    }

    private static void coherenceIsManualAtFirst() {
        ProcessingMemory x = new ProcessingMemory();
        due("1: manual", x.setCoherence(true), false);
        Checks.type(x, "banks 1 rows 1 columns 1;");
        x.load();
        due("4: manual", x.setCoherence(true), false);
        Checks.type(x, "x");
        CHECKS.dueThrow("4: error", Checks.ARGUMENT, x::load);
        due("4: stays automatic", x.setCoherence(true), true);
    }
}
