/** Promises 1 to 9: a new object, the text and its errors, and what a program consists of. */
public final class TextTest {
    private static final Checks CHECKS = new Checks();
    private static final String SIZES = "banks 2 rows 3 columns 2;";

    public static void main(String[] args) {
        newObject();
        appendedBytes();
        appendLimit();
        truncation();
        goodTexts();
        settingLimits();
        wrongTokens();
        wrongNumbers();
        repetitions();
        tooMany();
        loadBeginsAnew();
        loadAgainAndAgain();
        failedLoadKeepsAll();
        counts();
        batches();
        CHECKS.end();
    }

    private static void due(String name, Object got, Object want) {
        CHECKS.due(name, got, want);
    }

    private static void newObject() {
        ProcessingMemory x = new ProcessingMemory();
        int[] want = {1, 1, 1, 0, 0, 0, 0};
        for (int what = 0; what < want.length; what++) {
            due("1: count(" + what + ")", x.count(what), want[what]);
        }
        due("1: memory", x.memory(0, 0, 0), 0);
        due("1: register", x.register(0, 3, 0), 0);
        due("1: clock", x.clock(0), 0);
        due("1: ready", x.ready(0, 3), 0);
        due("1: openRow", x.openRow(0), ProcessingMemory.NONE);
        due("1: NONE", ProcessingMemory.NONE, -1);
        due("1: coherence", x.setCoherence(true), false);
        CHECKS.dueThrow("1: the buffer is empty", Checks.INDEX, () -> x.truncate(1));
        CHECKS.dueThrow("1: no second bank", Checks.INDEX, () -> x.clock(1));
        CHECKS.dueThrow("1: no second row", Checks.INDEX, () -> x.line(0, 1));
        CHECKS.dueThrow("1: no second column", Checks.INDEX, () -> x.memory(0, 0, 1));
        CHECKS.dueThrow("1: nothing is saved", Checks.ELEMENT, () -> x.restore(0));
        due("5: no call yet", x.errorCode(), 0);
        due("6: no call yet", x.errorPosition(), -1);
        x.hostWrite(0, 0, 0, 3);
        due("1: the cache has lines", x.line(0, 0), 6);
    }

    private static void appendedBytes() {
        ProcessingMemory x = new ProcessingMemory();
        // "bank" "s 2 " "rows" " 3 c" "olum" "ns 4" ";   " "    " "    " "    "
        due("2: first", x.append(0x62616e6b, 0x73203220, 0x726f7773, 0x20332063, 0x6f6c756d), 20);
        due("2: second", x.append(0x6e732034, 0x3b202020, 0x20202020, 0x20202020, 0x20202020), 40);
        due("4: load", x.load(), 0);
        due("2: banks", x.count(0), 2);
        due("2: rows", x.count(1), 3);
        due("2: columns", x.count(2), 4);
        due("2: after load", x.append(0x20202020, 0x2020ff20, 0x20202020, 0x20202020, -1), 20);
        CHECKS.dueThrow("4: bytes above 127", Checks.ARGUMENT, x::load);
        due("5: code", x.errorCode(), 1);
        due("6: position", x.errorPosition(), 6);
    }

    private static void appendLimit() {
        ProcessingMemory x = new ProcessingMemory();
        for (int i = 1; i <= 45; i++) {
            due("2: length", x.append(0, 0, 0, 0, 0), 20 * i);
        }
        CHECKS.dueThrow("2: 920", Checks.STATE, () -> x.append(0, 0, 0, 0, 0));
        due("2: nothing was appended", x.truncate(900), 900);
        CHECKS.dueThrow("2: nothing more", Checks.INDEX, () -> x.truncate(901));
        x.truncate(881);
        CHECKS.dueThrow("2: 901", Checks.STATE, () -> x.append(0, 0, 0, 0, 0));
        x.truncate(880);
        due("2: 900", x.append(0, 0, 0, 0, 0), 900);
        CHECKS.dueThrow("4: full of zeros", Checks.ARGUMENT, x::load);
        due("4: the buffer is empty", x.append(0, 0, 0, 0, 0), 20);
    }

    private static void truncation() {
        ProcessingMemory x = new ProcessingMemory();
        due("3: empty", x.truncate(0), 0);
        x.append(0, 0, 0, 0, 0);
        CHECKS.dueThrow("3: negative", Checks.INDEX, () -> x.truncate(-1));
        CHECKS.dueThrow("3: least", Checks.INDEX, () -> x.truncate(Integer.MIN_VALUE));
        CHECKS.dueThrow("3: longer", Checks.INDEX, () -> x.truncate(21));
        CHECKS.dueThrow("3: greatest", Checks.INDEX, () -> x.truncate(Integer.MAX_VALUE));
        due("3: the same", x.truncate(20), 20);
        due("3: shorter", x.truncate(7), 7);
        CHECKS.dueThrow("3: gone", Checks.INDEX, () -> x.truncate(8));
        due("3: appended behind it", x.append(0, 0, 0, 0, 0), 27);
    }

    /** A text without an error, with the number of its batches. */
    private static void good(int batches, String text) {
        ProcessingMemory x = new ProcessingMemory();
        Checks.type(x, text);
        try {
            due("4: " + text, x.load(), batches);
        } catch (IllegalArgumentException e) {
            due("4: " + text, "error " + x.errorCode() + " at " + x.errorPosition(), "no error");
        }
        due("5: " + text, x.errorCode(), 0);
        due("6: " + text, x.errorPosition(), -1);
        CHECKS.dueThrow("4: the buffer is empty", Checks.INDEX, () -> x.truncate(1));
    }

    /** A text with an error; "^" stands before its position. */
    private static void bad(int code, String marked) {
        int position = marked.indexOf('^');
        ProcessingMemory x = new ProcessingMemory();
        Checks.type(x, marked.replace("^", ""));
        CHECKS.dueThrow("4: " + marked, Checks.ARGUMENT, x::load);
        due("5: " + marked, x.errorCode(), code);
        due("6: " + marked, x.errorPosition(), position);
        CHECKS.dueThrow("4: the buffer is empty", Checks.INDEX, () -> x.truncate(1));
        Checks.type(x, "banks 1 rows 1 columns 1;");
        x.load();
        due("5: again", x.errorCode(), 0);
        due("6: again", x.errorPosition(), -1);
    }

    private static void goodTexts() {
        good(0, "banks 1 rows 1 columns 1;");
        good(0, "banks8rows16columns8;");
        good(0, "\n\n banks\n1 rows 000001\ncolumns 01 ; \n");
        good(1, SIZES + "batch 0:end;");
        good(2, SIZES + "batch 1 0:barrier;end;batch\n0 : end ; ");
        good(1, SIZES + "batch 0:load 0 0;load3 2;store 0 0;store3 2;end;");
        good(1, SIZES + "batch 0:set 0 0;set 1 999999;set2-999999;set 3 - 000000;end;");
        good(1, SIZES + "batch 0:add 0 1 2;sub 3 3 3;mul 0 0 0;min 1 1 1;max 2 2 2;end;");
        good(1, SIZES + "batch 0:and 0 1 2;or 3 3 3;xor 0 0 0;broadcast 0;broadcast3;end;");
        for (String reduction : new String[] {"add", "mul", "min", "max", "and", "or", "xor"}) {
            good(1, SIZES + "batch 0:reduce " + reduction + " 0;lanes " + reduction + "3;end;");
        }
        good(12, SIZES + "batch 0:end;".repeat(12));
        good(1, SIZES + "batch 0:" + "barrier;".repeat(60) + "end;");
        good(2, SIZES + "batch 0:" + "set 0 1;".repeat(30) + "end;"
                + "batch 1:" + "set 0 1;".repeat(30) + "end;");
    }

    private static void settingLimits() {
        String[] names = {
            "activate", "access", "compute", "multiply", "reduce", "transfer", "budget", "window",
            "cache",
        };
        int[] most = {100, 100, 100, 100, 100, 100, 8, 1000, 8};
        StringBuilder all = new StringBuilder(SIZES);
        for (int i = 0; i < names.length; i++) {
            int least = names[i].equals("cache") ? 0 : 1;
            good(0, SIZES + names[i] + " " + least + ";");
            good(0, SIZES + names[i] + most[i] + ";");
            if (least == 1) {
                bad(2, SIZES + names[i] + " ^0;");
            }
            bad(2, SIZES + names[i] + " ^" + (most[i] + 1) + ";");
            bad(2, SIZES + names[i] + "^999999;");
            bad(1, SIZES + names[i] + "^-1;");
            bad(3, SIZES + names[i] + " 1;^" + names[i] + " 1;");
            bad(3, SIZES + names[i] + " 1;^" + names[i] + " 2000000;");
            all.append(names[i]).append(" 1;");
        }
        good(0, all.toString());
        bad(3, all + "^window 1;");
    }

    private static void wrongTokens() {
        bad(1, "^");
        bad(1, " \n ^");
        bad(1, "^bank 1 rows 1 columns 1;");
        bad(1, "^banksz 1 rows 1 columns 1;");
        bad(1, "^banksrows 1 columns 1;");
        bad(1, "^Banks 1 rows 1 columns 1;");
        bad(1, "^\tbanks 1 rows 1 columns 1;");
        bad(1, "^\0");
        bad(1, "^\u00e9banks 1 rows 1 columns 1;");
        bad(1, "banks^");
        bad(1, "banks ^-1 rows 1 columns 1;");
        bad(1, "banks ^0000001 rows 1 columns 1;");
        bad(1, "banks ^1000000 rows 1 columns 1;");
        bad(1, "banks ^99999999999999999999 rows 1 columns 1;");
        bad(1, "banks 1 ^1 rows 1 columns 1;");
        bad(1, "banks 1 ^columns 1 rows 1;");
        bad(1, "banks 1 rows 1 columns 1^");
        bad(1, "banks 1 rows 1 columns 1 ^:");
        bad(1, SIZES + "^;");
        bad(1, SIZES + "^load 0 0;");
        bad(1, SIZES + "^banks 1;");
        bad(1, SIZES + "^3");
        bad(1, SIZES + "^speed 5;");
        bad(1, SIZES + "activate^");
        bad(1, SIZES + "activate ^;");
        bad(1, SIZES + "activate 5  ^");
        bad(1, SIZES + "activate 5 ^5;");
        bad(1, SIZES + "batch 0:end; ^budget 3;");
        bad(1, SIZES + "batch ^:end;");
        bad(1, SIZES + "batch 0 ^end;");
        bad(1, SIZES + "batch 0 ^;end;");
        bad(1, SIZES + "batch 0 ^-1:end;");
        bad(1, SIZES + "batch 0:^;end;");
        bad(1, SIZES + "batch 0:^sum 0 0 0;end;");
        bad(1, SIZES + "batch 0:^0;end;");
        bad(1, SIZES + "batch 0:^batch 1:end;end;");
        bad(1, SIZES + "batch 0:load ^;end;");
        bad(1, SIZES + "batch 0:load 0^;end;");
        bad(1, SIZES + "batch 0:load 0 0^end;");
        bad(1, SIZES + "batch 0:load 0 0 ^0;end;");
        bad(1, SIZES + "batch 0:load 0 ^-0;end;");
        bad(1, SIZES + "batch 0:add 0 0^;end;");
        bad(1, SIZES + "batch 0:set 0 ^;end;");
        bad(1, SIZES + "batch 0:set 0 - ^-5;end;");
        bad(1, SIZES + "batch 0:set 0 -^;end;");
        bad(1, SIZES + "batch 0:set 0 ^1234567;end;");
        bad(1, SIZES + "batch 0:reduce ^sub 0;end;");
        bad(1, SIZES + "batch 0:reduce ^0;end;");
        bad(1, SIZES + "batch 0:lanes ^sub 0;end;");
        bad(1, SIZES + "batch 0:lanes add^;end;");
        bad(1, SIZES + "batch 0:broadcast ^add 0;end;");
        bad(1, SIZES + "batch 0:barrier ^0;end;");
        bad(1, SIZES + "batch 0:barrier;^");
        bad(1, SIZES + "batch 0:end^");
        bad(1, SIZES + "batch 0:end ^:");
        bad(1, SIZES + "batch 0:end;^end;");
        bad(1, SIZES + "batch 0:end;^x");
        bad(1, SIZES + "batch 0:barrier;end;batch^");
    }

    private static void wrongNumbers() {
        bad(2, "banks ^0 rows 1 columns 1;");
        bad(2, "banks ^9 rows 99 columns 99;");
        bad(2, "banks 1 rows ^0 columns 1;");
        bad(2, "banks 1 rows ^17 columns 1;");
        bad(2, "banks 1 rows 1 columns ^0;");
        bad(2, "banks 1 rows 1 columns ^9;");
        bad(2, "banks 1 rows 1 columns ^999999");
        bad(2, SIZES + "batch ^2:end;");
        bad(2, SIZES + "batch 0 1 ^2:end;");
        bad(2, SIZES + "batch 0:load ^4 0;end;");
        bad(2, SIZES + "batch 0:load 0 ^3;end;");
        bad(2, SIZES + "batch 0:store ^4 3;end;");
        bad(2, SIZES + "batch 0:store 3 ^3;end;");
        bad(2, SIZES + "batch 0:set ^4 0;end;");
        bad(2, SIZES + "batch 0:add ^4 0 0;end;");
        bad(2, SIZES + "batch 0:sub 0 ^4 0;end;");
        bad(2, SIZES + "batch 0:mul 0 0 ^4;end;");
        bad(2, SIZES + "batch 0:reduce add ^4;end;");
        bad(2, SIZES + "batch 0:lanes xor ^4;end;");
        bad(2, SIZES + "batch 0:broadcast ^4;end;");
    }

    private static void repetitions() {
        bad(3, SIZES + "batch 0 ^0:end;");
        bad(3, SIZES + "batch 1 0 ^01:end;");
        bad(3, "banks 8 rows 1 columns 1;batch 0 1 2 3 4 5 6 7 ^3:end;");
        bad(3, SIZES + "reduce 1;budget 1;^reduce 1;");
        good(2, SIZES + "batch 0:end;batch 0:end;");
    }

    private static void tooMany() {
        String twelve = SIZES + "batch 0:end;".repeat(12);
        bad(4, twelve + "^batch 0:end;");
        bad(4, twelve + "^batch");
        bad(1, twelve + "^bat");
        bad(1, twelve + "^7");
        String sixty = SIZES + "batch 0:" + "set 0 1;".repeat(60);
        bad(4, sixty + "^barrier;end;");
        bad(4, sixty + "^load");
        bad(4, sixty + "^sub 9 9 9;");
        bad(1, sixty + "^budget 1;");
        bad(1, sixty + "^7");
        bad(1, sixty + "^");
        good(2, sixty + "end;batch 1:end;");
        bad(4, sixty + "end;batch 1:^xor 0 0 0;end;");
    }

    private static final String PROGRAM =
            "banks 2 rows 3 columns 2; cache 3; batch 0: load 0 1; store 0 2; end;"
                    + " batch 0 1: barrier; end; batch 1: end;";

    /** An object of which every part has been used. */
    private static ProcessingMemory used() {
        ProcessingMemory x = Checks.with(PROGRAM);
        x.fill(0, 1, 5, 1);
        x.hostWrite(1, 1, 1, 8);
        x.hostRead(1, 1, 0);
        x.hostWrite(1, 2, 0, 9);
        x.flush(1, 2);
        Checks.runAll(x, 0, 1);
        x.setCoherence(true);
        x.submit(1);
        x.save(0);
        x.save(1);
        return x;
    }

    private static void loadBeginsAnew() {
        ProcessingMemory x = used();
        Checks.type(x, PROGRAM);
        due("4: batches", x.load(), 3);
        due("4: memory", x.memory(0, 1, 0), 0);
        due("4: register", x.register(0, 0, 0), 0);
        due("4: queue", x.count(4), 0);
        due("4: runs", x.count(5), 0);
        due("4: lines", x.count(6), 0);
        due("4: hits", x.cache(0), 0);
        due("4: misses", x.cache(1), 0);
        due("4: written back", x.cache(2), 0);
        due("4: clock", x.clock(0), 0);
        due("4: ready", x.ready(0, 0), 0);
        due("4: openRow", x.openRow(0), -1);
        due("4: hazards", x.stalls(0, 0), 0);
        due("4: activations", x.stalls(0, 1), 0);
        due("4: synchronization", x.stalls(1, 3), 0);
        due("4: finish", x.finish(), 0);
        due("4: coherence", x.setCoherence(false), false);
        CHECKS.dueThrow("4: slot 0", Checks.ELEMENT, () -> x.restore(0));
        CHECKS.dueThrow("4: slot 1", Checks.ELEMENT, () -> x.restore(1));
        CHECKS.dueThrow("4: no run", Checks.INDEX, () -> x.runOf(0, 0));
        Checks.runAll(x, 1, 0);
        due("4: activations and executed commands begin anew", x.utilization(0), 3 / 28.0);
        Checks.type(x, SIZES);
        x.load();
        due("4: settings and batches of the other program are gone", x.count(3), 0);
        for (int row = 0; row < 3; row++) {
            x.hostRead(0, row, 0);
            x.hostRead(1, row, 0);
        }
        due("4: the setting cache is 4 again", x.count(6), 4);
    }

    private static void loadAgainAndAgain() {
        String[] batches = {"0: set 0 1;", "0: barrier;", "1: store 3 0; set 1 1;"};
        boolean[] want = {true, false, true};
        boolean[] wantRead = {false, false, true};
        ProcessingMemory x = new ProcessingMemory();
        for (int i = 0; i < 9; i++) {
            String commands = "barrier;".repeat(40);
            Checks.type(x, SIZES + "batch 0 1:" + commands + "end; batch " + batches[i % 3]
                    + "end; batch 1: set 3 1; end;");
            due("4: load " + i, x.load(), 3);
            due("8: load " + i, x.commands(0), 40);
            due("8: load " + i, x.commands(1), i % 3 == 2 ? 2 : 1);
            due("33: load " + i, x.isConflict(1, 1), want[i % 3]);
            due("33: load " + i, x.isConflict(0, 1), false);
            due("33: load " + i, x.isConflict(1, 2), wantRead[i % 3]);
        }
        for (int i = 0; i < 3; i++) {
            Checks.type(x, "banks 1 rows 2 columns 1; budget 1; batch 0: load 0 0; end;");
            x.load();
            Checks.runAll(x, 0);
            due("4: earlier activations are forgotten", x.finish(), 14);
        }
    }

    private static void failedLoadKeepsAll() {
        ProcessingMemory x = used();
        Checks.type(x, "banks 1 rows 1 columns 1; cache 0; batch 0: set 0 7; end; batch 0: x");
        CHECKS.dueThrow("4: error", Checks.ARGUMENT, x::load);
        due("5: code", x.errorCode(), 1);
        due("6: position", x.errorPosition(), 67);
        int[] want = {2, 3, 2, 3, 1, 2, 2};
        for (int what = 0; what < want.length; what++) {
            due("4: count(" + what + ") stays", x.count(what), want[what]);
        }
        due("4: commands stay", x.commands(0), 2);
        due("4: banks stay", x.banks(1), 3);
        due("4: memory stays", x.memory(0, 2, 1), 6);
        due("4: coherence stays", x.setCoherence(false), true);
        due("4: misses stay", x.cache(1), 2);
        due("4: finish stays", x.finish(), 28);
        x.run(1);
        x.restore(1);
        due("4: saved states stay", x.count(4), 1);
        due("5: still", x.errorCode(), 1);
    }

    private static void counts() {
        ProcessingMemory x = used();
        due("7: banks", x.count(0), 2);
        due("7: rows", x.count(1), 3);
        due("7: columns", x.count(2), 2);
        due("7: batches", x.count(3), 3);
        due("7: queue", x.count(4), 1);
        due("7: runs", x.count(5), 2);
        due("7: lines", x.count(6), 2);
        for (int what : new int[] {-1, 7, Integer.MIN_VALUE, Integer.MAX_VALUE}) {
            CHECKS.dueThrow("7: count(" + what + ")", Checks.ARGUMENT, () -> x.count(what));
        }
    }

    private static void batches() {
        ProcessingMemory x = Checks.with("banks 8 rows 1 columns 1; batch 7 0 3: barrier; end;"
                + "batch 1:end; batch 0 1 2 3 4 5 6 7: set 0 1; set 1 2; set 2 3; end;");
        due("8: one", x.commands(0), 1);
        due("8: none", x.commands(1), 0);
        due("8: three", x.commands(2), 3);
        due("9: three", x.banks(0), 0b10001001);
        due("9: one", x.banks(1), 0b10);
        due("9: all", x.banks(2), 255);
        for (int batch : new int[] {-1, 3, Integer.MIN_VALUE, Integer.MAX_VALUE}) {
            CHECKS.dueThrow("8: commands(" + batch + ")", Checks.INDEX, () -> x.commands(batch));
            CHECKS.dueThrow("9: banks(" + batch + ")", Checks.INDEX, () -> x.banks(batch));
        }
    }
}
