import java.util.ArrayList;
import java.util.List;

/**
 * 'EXCEPTIONS': a call that throws an exception changes nothing, unless its comment says otherwise.
 * Each refused call is made on an object of which every part is in use; then the object has to
 * answer as one on which the call was not made, also in what happens to it later.
 */
public final class RefusalTest {
    private static final Checks CHECKS = new Checks();
    private static final int LEAST = Integer.MIN_VALUE;
    private static final int MOST = Integer.MAX_VALUE;
    private static final String PROGRAM = "banks 2 rows 2 columns 2; cache 2; budget 2;"
            + "batch 0: load 0 0; add 1 1 0; store 1 1; end;"
            + "batch 0 1: reduce add 1; broadcast 1; end;"
            + "batch 1: set 2 7; store 2 0; load 0 1; end;";

    interface Refused {
        void call(ProcessingMemory x);
    }

    // The object on which the calls are made, and what one answers on which none was made.
    private static int queueLength;
    private static int textLength;
    private static List<Object> untouched;

    public static void main(String[] args) {
        manyInTheQueue();
        fullQueue();
        sixInTheQueue();
        nothingWasRun();
        refusedTexts();
        CHECKS.end();
    }

    private static void due(String name, Object got, Object want) {
        CHECKS.due(name, got, want);
    }

    /** A text without an error whose last byte is needed. */
    private static String longText(int length) {
        String first = "banks 1 rows 1 columns 1;";
        String last = "batch 0: barrier; end;";
        return first + " ".repeat(length - first.length() - last.length()) + last;
    }

    /** 41 runs, lines of both kinds, an error, a saved state, a queue and a text. */
    private static ProcessingMemory used(int queued, String text) {
        ProcessingMemory x = Checks.with(PROGRAM);
        x.fill(0, 0, 3, 1);
        for (int i = 0; i < 41; i++) {
            x.submit(i % 3);
            if (i % 14 == 13) {
                x.run(14);
            }
        }
        x.run(16);
        Checks.submitAll(x, 2, 1);
        x.setCoherence(true);
        x.hostRead(1, 1, 0);
        x.save(0);
        x.run(2);
        x.setCoherence(false);
        x.hostWrite(0, 0, 1, 9);
        x.hostRead(1, 1, 1);
        x.setCoherence(true);
        for (int i = 0; i < queued; i++) {
            x.submit((i + 1) % 3);
        }
        Checks.type(x, "banks 9");
        CHECKS.dueThrow("an error", Checks.ARGUMENT, x::load);
        Checks.type(x, text);
        return x;
    }

    /** All that an object answers, now and later; the error comes first, then the text. */
    private static List<Object> answers(ProcessingMemory x) {
        List<Object> all = new ArrayList<>();
        all.add(x.errorCode());
        all.add(x.errorPosition());
        all.add(lengthOf(x, textLength));
        all.addAll(View.withLatestRuns(x));
        if (x.count(4) <= 6) {
            all.add(x.bestFinish());
            all.add(x.reorder());
        }
        all.add(x.longestChain());
        all.add(x.hostRead(0, 1, 0));
        all.add(x.run(2));
        all.addAll(View.withLatestRuns(x));
        all.add(thrown(() -> x.restore(1)));
        all.add(thrown(() -> x.restore(0)));
        all.addAll(View.withLatestRuns(x));
        all.add(thrown(x::load));
        all.add(x.count(3));
        return all;
    }

    private static int lengthOf(ProcessingMemory x, int expected) {
        CHECKS.dueThrow("the text is not longer", Checks.INDEX, () -> x.truncate(expected + 1));
        return thrown(() -> x.truncate(expected)).equals("nothing") ? expected : -1;
    }

    private static Object thrown(Checks.Action action) {
        try {
            action.act();
            return "nothing";
        } catch (RuntimeException e) {
            return e.getClass();
        }
    }

    private static void begin(int queued, int length) {
        queueLength = queued;
        textLength = length;
        untouched = answers(used(queued, longText(length)));
    }

    private static void refused(String name, Class<?> want, Refused refused) {
        ProcessingMemory x = used(queueLength, longText(textLength));
        CHECKS.dueThrow(name, want, () -> refused.call(x));
        due(name + " changes nothing", answers(x), untouched);
    }

    private static void index(String name, Refused refused) {
        refused(name, Checks.INDEX, refused);
    }

    private static void argument(String name, Refused refused) {
        refused(name, Checks.ARGUMENT, refused);
    }

    private static void state(String name, Refused refused) {
        refused(name, Checks.STATE, refused);
    }

    private static void manyInTheQueue() {
        begin(7, 881);
        state("2: append", x -> x.append(0x20202020, 0, -1, 0x61616161, 5));
        for (int length : new int[] {-1, 882, 900, 901, LEAST, MOST}) {
            index("3: truncate " + length, x -> x.truncate(length));
        }
        for (int what : new int[] {-1, 7, LEAST, MOST}) {
            argument("7: count " + what, x -> x.count(what));
        }
        for (int what : new int[] {-1, 3, LEAST, MOST}) {
            argument("19: cache " + what, x -> x.cache(what));
        }
        wrongBatches();
        wrongPlaces();
        wrongRuns();
        wrongTimes();
        wrongPredictions();
        wrongSlots();
    }

    private static void wrongBatches() {
        for (int batch : new int[] {-1, 3, 11, 12, LEAST, MOST}) {
            index("8: commands " + batch, x -> x.commands(batch));
            index("9: banks " + batch, x -> x.banks(batch));
            index("21: submit " + batch, x -> x.submit(batch));
            index("33: isConflict " + batch, x -> x.isConflict(batch, 0));
            index("33: isConflict " + batch, x -> x.isConflict(0, batch));
            if (batch != ProcessingMemory.NONE) {
                index("31: wouldFinish " + batch, x -> x.wouldFinish(batch));
            }
        }
        index("31: wouldFinish -2", x -> x.wouldFinish(-2));
    }

    private static void wrongPlaces() {
        int[][] places = {
            {-1, 0, 0}, {2, 0, 0}, {0, -1, 0}, {0, 2, 0}, {0, 0, -1}, {0, 0, 2}, {-1, 16, 0},
            {1, -1, 8}, {LEAST, 1, 1}, {1, MOST, 1}, {1, 1, LEAST}, {MOST, LEAST, MOST},
        };
        for (int[] p : places) {
            String name = p[0] + " " + p[1] + " " + p[2];
            index("10: memory " + name, x -> x.memory(p[0], p[1], p[2]));
            index("13: hostRead " + name, x -> x.hostRead(p[0], p[1], p[2]));
            index("14: hostWrite " + name, x -> x.hostWrite(p[0], p[1], p[2], 77));
            boolean isWrongRow = p[0] < 0 || p[0] > 1 || p[1] < 0 || p[1] > 1;
            if (isWrongRow) {
                index("11: fill " + name, x -> x.fill(p[0], p[1], 77, 78));
                index("15: flush " + name, x -> x.flush(p[0], p[1]));
                index("17: invalidate " + name, x -> x.invalidate(p[0], p[1]));
                index("18: line " + name, x -> x.line(p[0], p[1]));
            }
        }
        int[][] lanes = {{-1, 0, 0}, {2, 0, 0}, {0, -1, 0}, {0, 4, 0}, {0, 0, -1}, {0, 0, 2}};
        for (int[] p : lanes) {
            String name = p[0] + " " + p[1] + " " + p[2];
            index("12: register " + name, x -> x.register(p[0], p[1], p[2]));
            index("32: wouldBe " + name, x -> x.wouldBe(p[0], p[1], p[2]));
        }
    }

    private static void wrongRuns() {
        for (int position : new int[] {-1, 7, 15, 16, LEAST, MOST}) {
            index("22: queued " + position, x -> x.queued(position));
        }
        for (int number : new int[] {0, -1, 17, LEAST, MOST}) {
            argument("23: run " + number, x -> x.run(number));
        }
        // 43 runs, of which 3 to 42 are kept.
        for (int run : new int[] {-1, 0, 2, 43, LEAST, MOST}) {
            index("24: runOf " + run, x -> x.runOf(run, 0));
            index("24: runOf " + run + ", the first exception", x -> x.runOf(run, 3));
        }
        for (int what : new int[] {-1, 3, LEAST, MOST}) {
            argument("24: runOf 3 " + what, x -> x.runOf(3, what));
            argument("24: runOf 42 " + what, x -> x.runOf(42, what));
        }
    }

    private static void wrongTimes() {
        for (int bank : new int[] {-1, 2, 7, 8, LEAST, MOST}) {
            index("25: clock " + bank, x -> x.clock(bank));
            index("26: ready " + bank, x -> x.ready(bank, 0));
            index("27: openRow " + bank, x -> x.openRow(bank));
            index("28: stalls " + bank, x -> x.stalls(bank, 0));
            index("28: stalls " + bank + ", the first exception", x -> x.stalls(bank, -1));
            index("30: utilization " + bank, x -> x.utilization(bank));
        }
        for (int other : new int[] {-1, 4, LEAST, MOST}) {
            index("26: ready 1 " + other, x -> x.ready(1, other));
            argument("28: stalls 1 " + other, x -> x.stalls(1, other));
        }
    }

    private static void wrongPredictions() {
        state("35: bestFinish", ProcessingMemory::bestFinish);
        for (int position : new int[] {0, 6, 7, -1, LEAST, MOST}) {
            state("36: bestOrder " + position, x -> x.bestOrder(position));
        }
        state("37: reorder", ProcessingMemory::reorder);
        for (int limit : new int[] {0, -1, LEAST}) {
            refused("38: budgetFor " + limit, Checks.ELEMENT, x -> x.budgetFor(limit));
        }
    }

    private static void wrongSlots() {
        for (int slot : new int[] {-1, 2, LEAST, MOST}) {
            index("39: save " + slot, x -> x.save(slot));
            index("40: restore " + slot, x -> x.restore(slot));
        }
        refused("40: restore 1", Checks.ELEMENT, x -> x.restore(1));
    }

    private static void fullQueue() {
        begin(16, 900);
        state("2: append to a full buffer", x -> x.append(0, 0, 0, 0, 0));
        index("3: truncate 901", x -> x.truncate(901));
        for (int batch = 0; batch < 3; batch++) {
            int submitted = batch;
            state("21: submit " + batch + " to a full queue", x -> x.submit(submitted));
        }
        for (int batch : new int[] {-1, 3, LEAST, MOST}) {
            index("21: submit " + batch + " to a full queue", x -> x.submit(batch));
        }
        index("22: queued 16", x -> x.queued(16));
        argument("23: run 17", x -> x.run(17));
        state("35: sixteen", ProcessingMemory::bestFinish);
        state("36: sixteen", x -> x.bestOrder(16));
        state("37: sixteen", ProcessingMemory::reorder);
    }

    private static void sixInTheQueue() {
        begin(6, 880);
        for (int position : new int[] {-1, 6, 7, LEAST, MOST}) {
            index("36: bestOrder " + position, x -> x.bestOrder(position));
        }
        refused("38: six", Checks.ELEMENT, x -> x.budgetFor(100));
        begin(0, 880);
        index("36: empty", x -> x.bestOrder(0));
        index("22: empty", x -> x.queued(0));
        argument("23: empty", x -> x.run(0));
        argument("23: empty", x -> x.run(17));
    }

    private static void nothingWasRun() {
        ProcessingMemory x = Checks.with(PROGRAM);
        ProcessingMemory y = Checks.with(PROGRAM);
        CHECKS.dueThrow("30: the finish is 0", Checks.STATE, () -> x.utilization(0));
        CHECKS.dueThrow("30: the finish is 0", Checks.STATE, () -> x.utilization(1));
        CHECKS.dueThrow("30: the first exception", Checks.INDEX, () -> x.utilization(2));
        CHECKS.dueThrow("24: no run", Checks.INDEX, () -> x.runOf(0, 0));
        CHECKS.dueThrow("40: nothing saved", Checks.ELEMENT, () -> x.restore(0));
        CHECKS.dueThrow("40: nothing saved", Checks.ELEMENT, () -> x.restore(1));
        CHECKS.dueThrow("38: less than now", Checks.ELEMENT, () -> x.budgetFor(-1));
        due("nothing changed", View.of(x), View.of(y));
    }

    private static void refusedTexts() {
        String[] texts = {
            "", "x", "banks 1 rows 1 columns 1; cache 0; batch 0: set 0 1; end",
            "banks 8 rows 16 columns 8; budget 9;", "banks 8 rows 16 columns 8; budget 8; budget 8;",
            "banks 1 rows 1 columns 1;" + "batch 0: end;".repeat(13),
            "banks 8 rows 16 columns 8; batch 7 6: set 0 5; store 0 15; end; batch 9",
            "banks 8 rows 16 columns 8; cache 0; batch 7:" + "barrier;".repeat(61) + "end;",
        };
        int[] codes = {1, 1, 1, 2, 3, 4, 2, 4};
        int[] positions = {0, 0, 56, 34, 37, 181, 70, 524};
        for (int queued : new int[] {0, 6, 16}) {
            textLength = 0;
            List<Object> want = answers(used(queued, ""));
            for (int i = 0; i < texts.length; i++) {
                ProcessingMemory x = used(queued, texts[i]);
                CHECKS.dueThrow("4: text " + i, Checks.ARGUMENT, x::load);
                List<Object> got = answers(x);
                due("5: text " + i, got.get(0), codes[i]);
                due("6: text " + i, got.get(1), positions[i]);
                due("4: all else stays, text " + i, got.subList(2, got.size()),
                        want.subList(2, want.size()));
            }
        }
    }
}
