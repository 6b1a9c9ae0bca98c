import java.util.Arrays;
import java.util.regex.Matcher;
import java.util.regex.Pattern;

/**
 * The boundary cases that 'PROGRAMS' names: bytes, tokens, the length of a text, numbers, settings,
 * and which error of a text is reported, with its position.
 */
public final class TextLimitsTest {
    private static final Checks CHECKS = new Checks();
    private static final String LEAST = "banks 1 rows 1 columns 1;";
    private static final String SIZES = "banks 2 rows 3 columns 2;";
    // Every word and every form of a command.
    private static final String RICH = SIZES + "activate 1;access 2;compute 3;multiply 4;reduce 5;"
            + "transfer 6;budget 7;window 8;cache 8;batch 1 0:load 0 2;store 3 0;set 1 5;set 2-6;"
            + "add 0 1 2;sub 3 2 1;mul 0 0 0;min 1 1 1;max 2 2 2;and 0 1 0;or 1 0 1;xor 3 3 0;"
            + "reduce add 1;lanes max 2;broadcast 3;barrier;end;batch 0:end;";
    private static final int MOST_TEXT = 900;

    public static void main(String[] args) {
        noText();
        everyFirstByte();
        everyLastByte();
        everyByteBetween();
        everyWord();
        longestTokens();
        everyPrefix();
        everySpoiledByte();
        nineHundredBytes();
        bytesBehindTheEnd();
        leastAndMostSizes();
        bankRowAndRegister();
        leftmostError();
        lowestCode();
        repeatedWords();
        thirteenthBatch();
        sixtyFirstCommand();
        errorsComeAndGo();
        CHECKS.end();
    }

    private static void due(String name, Object got, Object want) {
        CHECKS.due(name, got, want);
    }

    /** What load() answers: the number of batches, or the error. */
    private static String outcome(ProcessingMemory x) {
        try {
            return "batches " + x.load();
        } catch (IllegalArgumentException e) {
            return "error " + x.errorCode() + " at " + x.errorPosition();
        }
    }

    private static String outcome(String text) {
        ProcessingMemory x = new ProcessingMemory();
        Checks.type(x, text);
        return outcome(x);
    }

    private static String modelOutcome(String text) {
        ReferenceModel model = new ReferenceModel();
        byte[] bytes = text.getBytes(java.nio.charset.StandardCharsets.ISO_8859_1);
        byte[] padded = Arrays.copyOf(bytes, (bytes.length + 19) / 20 * 20);
        for (int i = 0; i < padded.length; i += 20) {
            model.append(Checks.word(padded, i), Checks.word(padded, i + 4),
                    Checks.word(padded, i + 8), Checks.word(padded, i + 12),
                    Checks.word(padded, i + 16));
        }
        model.truncate(bytes.length);
        try {
            return "batches " + model.load();
        } catch (IllegalArgumentException e) {
            return "error " + model.errorCode() + " at " + model.errorPosition();
        }
    }

    private static void good(int batches, String text) {
        due(text, outcome(text), "batches " + batches);
    }

    /** A text with an error; "^" stands before its position. */
    private static void bad(int code, String marked) {
        String want = "error " + code + " at " + marked.indexOf('^');
        due(marked, outcome(marked.replace("^", "")), want);
    }

    private static void noText() {
        ProcessingMemory x = new ProcessingMemory();
        due("4: a new object has no text", outcome(x), "error 1 at 0");
        due("4: the program stays", x.count(0), 1);
        due("4: again", outcome(x), "error 1 at 0");
        bad(1, " ^");
        bad(1, " ".repeat(899) + "^");
        bad(1, "\n".repeat(900) + "^");
    }

    private static void everyFirstByte() {
        for (int code = 0; code < 256; code++) {
            String want = code == 10 || code == 32 ? "batches 0" : "error 1 at 0";
            due("blanks are bytes 10 and 32: byte " + code, outcome((char) code + LEAST), want);
        }
    }

    private static void everyLastByte() {
        for (int code = 0; code < 256; code++) {
            String want = code == 10 || code == 32 ? "batches 0" : "error 1 at 25";
            due("behind the program: byte " + code, outcome(LEAST + (char) code), want);
        }
    }

    private static void everyByteBetween() {
        for (int code = 0; code < 256; code++) {
            char sign = (char) code;
            due("behind a word: byte " + code, outcome("banks" + sign + " 1 rows 1 columns 1;"),
                    behindWord(sign));
            due("behind a number: byte " + code, outcome("banks 1 rows 1" + sign + "columns 1;"),
                    behindNumber(sign));
        }
    }

    private static String behindWord(char sign) {
        if (sign == 10 || sign == 32) {
            return "batches 0";
        }
        if (sign >= 'a' && sign <= 'z') {
            return "error 1 at 0";
        }
        // A number of banks, behind which the next number cannot stand.
        if (sign >= '1' && sign <= '8') {
            return "error 1 at 7";
        }
        return sign == '0' || sign == '9' ? "error 2 at 5" : "error 1 at 5";
    }

    private static String behindNumber(char sign) {
        boolean isDigit = sign >= '0' && sign <= '9';
        if (isDigit) {
            return sign <= '6' ? "batches 0" : "error 2 at 13";
        }
        return sign == 10 || sign == 32 ? "batches 0" : "error 1 at 14";
    }

    private static final String[] WORDS = {
        "banks", "rows", "columns", "activate", "access", "compute", "multiply", "reduce",
        "transfer", "budget", "window", "cache", "batch", "load", "store", "set", "add", "sub",
        "mul", "min", "max", "and", "or", "xor", "lanes", "broadcast", "barrier", "end",
    };

    private static void everyWord() {
        due("the rich text", outcome(RICH), "batches 2");
        for (String word : WORDS) {
            Matcher matcher = Pattern.compile("(?<![a-z])" + word + "(?![a-z])").matcher(RICH);
            due("has " + word, matcher.find(), true);
            String before = RICH.substring(0, matcher.start());
            String behind = RICH.substring(matcher.end());
            bad(1, before + "^" + word + "s" + behind);
            bad(1, before + "^s" + word + behind);
            bad(1, before + "^" + word.substring(0, word.length() - 1) + behind);
            // "xor" without its first letter is a word.
            if (!word.equals("xor")) {
                bad(1, before + "^" + word.substring(1) + behind);
            }
            bad(1, before + "^" + word.substring(0, 1) + " " + word.substring(1) + behind);
            bad(1, before + "^" + word.toUpperCase() + behind);
            bad(1, before + "^" + word + word + behind);
            bad(1, before + word + "^");
        }
    }

    private static void longestTokens() {
        good(0, "banks 000001 rows 000016 columns 000008;window 001000;");
        bad(1, "banks ^0000001 rows 1 columns 1;");
        bad(1, "banks 1 rows ^0000016 columns 1;");
        bad(1, "banks 1 rows 1 columns ^0000008;");
        bad(1, SIZES + "window ^0001000;");
        bad(1, SIZES + "batch ^0000000:end;");
        bad(1, SIZES + "batch 0 ^0000001:end;");
        bad(1, SIZES + "batch 0:load ^0000000 0;end;");
        bad(1, SIZES + "batch 0:load 0 ^0000000;end;");
        good(1, SIZES + "batch 0:set 0 999999;set 0 -999999;set 0 000000;set 0 -000000;end;");
        bad(1, SIZES + "batch 0:set 0 ^1000000;end;");
        bad(1, SIZES + "batch 0:set 0 -^1000000;end;");
        bad(1, SIZES + "batch 0:set 0 ^0000000;end;");
        bad(1, SIZES + "batch 0:set ^0000000 0;end;");
        bad(1, SIZES + "^" + "a".repeat(MOST_TEXT - SIZES.length()));
        bad(1, SIZES + "^" + "1".repeat(MOST_TEXT - SIZES.length()));
        bad(1, SIZES + "budget ^" + "0".repeat(MOST_TEXT - SIZES.length() - 7));
        // A word ends where a number begins, and the other way round.
        good(1, "banks1rows1columns1;budget1;batch0:load0 0;lanes add0;set0-1;end;");
        // Only a blank parts two numbers, or two words.
        bad(1, SIZES + "batch 0:load 00^;end;");
        bad(1, SIZES + "batch 0:^loadadd 0 0;end;");
        good(2, SIZES + "batch 0\n1:load 0\n0;end;batch\n\n0 \n 1 : end\n;\n");
    }

    private static void everyPrefix() {
        for (int length = 0; length <= RICH.length(); length++) {
            String text = RICH.substring(0, length);
            due("prefix of " + length + " bytes", outcome(text), modelOutcome(text));
        }
    }

    private static void everySpoiledByte() {
        String signs = "09:;-az \n\t/`{A" + (char) 0 + (char) 255;
        for (int at = 0; at < RICH.length(); at++) {
            String before = RICH.substring(0, at);
            String behind = RICH.substring(at + 1);
            String text = before + behind;
            due("without byte " + at, outcome(text), modelOutcome(text));
            for (int i = 0; i < signs.length(); i++) {
                text = before + signs.charAt(i) + behind;
                due("byte " + at + " is " + (int) signs.charAt(i), outcome(text),
                        modelOutcome(text));
                text = before + signs.charAt(i) + RICH.substring(at);
                due("before byte " + at + " " + (int) signs.charAt(i), outcome(text),
                        modelOutcome(text));
            }
        }
    }

    private static void nineHundredBytes() {
        String last = "batch 0:end;";
        String padded = LEAST + " ".repeat(MOST_TEXT - LEAST.length() - last.length()) + last;
        due("900 bytes", padded.length(), MOST_TEXT);
        good(1, padded);
        // Each of them counts, up to the last one.
        String cut = padded.substring(0, 899);
        bad(1, cut + "^:");
        bad(1, cut + "^");
        bad(1, cut.substring(0, 896) + "^endx");
        bad(1, cut.substring(0, 896) + "^1234");
        bad(1, cut + " ^");
        bad(1, padded.substring(0, 24) + " ".repeat(876) + "^");
        bad(2, LEAST + " ".repeat(MOST_TEXT - LEAST.length() - 7) + "batch ^9");
        StringBuilder full = new StringBuilder(SIZES);
        full.append("batch 0:");
        while (full.length() + 11 <= MOST_TEXT - 4) {
            full.append("set 0 1234;");
        }
        full.append(" ".repeat(MOST_TEXT - 4 - full.length())).append("end;");
        due("900 bytes of commands", full.length(), MOST_TEXT);
        bad(4, full.substring(0, 33 + 11 * 60) + "^" + full.substring(33 + 11 * 60));
        String dense = "banks 1rows 1columns 1;" + ("batch 0:" + "xor 0 0 0;".repeat(4)
                + "lanes and 3;end;").repeat(12);
        good(12, dense + " ".repeat(MOST_TEXT - dense.length()));
        good(12, " ".repeat(MOST_TEXT - dense.length()) + dense);
        tokensEverywhere();
    }

    private static void tokensEverywhere() {
        // As many tokens as a text can have.
        bad(1, "^" + ";".repeat(MOST_TEXT));
        bad(1, "^" + "a1".repeat(MOST_TEXT / 2));
        bad(1, "^" + "-".repeat(MOST_TEXT));
        bad(1, LEAST + "^" + ";".repeat(MOST_TEXT - LEAST.length()));
    }

    private static void bytesBehindTheEnd() {
        // What was truncated is no part of a token before it.
        String[] texts = {
            "banks 1 rows 1 columns 1|0;", "banks 1 rows 1 columns 8|;batch",
            LEAST + "batch 0:end|s;", LEAST + "batch 0:end;|batch 0:end;", LEAST + "|x",
            LEAST + "batch 0:load 0 0|0;", LEAST + "batch 0:set 0 999999|9;end;",
            LEAST + "budget 1|0;", LEAST + "batch 0:end|;",
        };
        String[] want = {
            "error 1 at 24", "error 1 at 24", "error 1 at 36", "batches 1", "batches 0",
            "error 1 at 41", "error 1 at 45", "error 1 at 33", "error 1 at 36",
        };
        for (int i = 0; i < texts.length; i++) {
            ProcessingMemory x = new ProcessingMemory();
            Checks.type(x, texts[i].replace("|", ""));
            x.truncate(texts[i].indexOf('|'));
            due("3: truncated, " + texts[i], outcome(x), want[i]);
        }
        ProcessingMemory y = new ProcessingMemory();
        Checks.type(y, LEAST + "batch 0:end;");
        y.load();
        Checks.type(y, LEAST);
        due("4: nothing is left of the text before", outcome(y), "batches 0");
        Checks.type(y, "banks 1 rows 1 columns 1");
        due("4: also not behind its end", outcome(y), "error 1 at 24");
        Checks.type(y, LEAST);
        y.truncate(0);
        due("3: nothing at all", outcome(y), "error 1 at 0");
    }

    private static void leastAndMostSizes() {
        int[] most = {8, 16, 8};
        for (int what = 0; what < 3; what++) {
            for (int number = 0; number <= most[what] + 1; number++) {
                int[] sizes = {1, 1, 1};
                sizes[what] = number;
                String text = "banks " + sizes[0] + " rows " + sizes[1] + " columns " + sizes[2];
                boolean isTaken = number >= 1 && number <= most[what];
                int position = new int[] {6, 13, 23}[what];
                ProcessingMemory x = new ProcessingMemory();
                Checks.type(x, text + ";");
                due(text, outcome(x), isTaken ? "batches 0" : "error 2 at " + position);
                due(text + ", count(" + what + ")", x.count(what), isTaken ? number : 1);
            }
        }
    }

    private static void bankRowAndRegister() {
        for (int size = 1; size <= 8; size++) {
            String text = "banks " + size + " rows " + 2 * size + " columns 1;batch ";
            good(1, text + (size - 1) + ":end;");
            bad(2, text + "^" + size + ":end;");
            bad(2, text + "0 ^" + size + ":end;");
            good(1, text + "0:load 0 " + (2 * size - 1) + ";store 0 " + (2 * size - 1) + ";end;");
            bad(2, text + "0:load 0 ^" + 2 * size + ";end;");
            bad(2, text + "0:store 0 ^" + 2 * size + ";end;");
        }
        String batch = LEAST + "batch 0:";
        String[] operands = {
            "load # 0", "store # 0", "set # 0", "set # - 0", "reduce min #", "lanes or #",
            "broadcast #", "add # 0 0", "add 0 # 0", "add 0 0 #", "sub # 0 0", "sub 0 # 0",
            "sub 0 0 #", "xor # 3 3", "xor 3 # 3", "xor 3 3 #",
        };
        for (String command : operands) {
            good(1, batch + command.replace("#", "0") + ";end;");
            good(1, batch + command.replace("#", "3") + ";end;");
            bad(2, batch + command.replace("#", "^4") + ";end;");
            bad(2, batch + command.replace("#", "^999999") + ";end;");
            bad(1, batch + command.replace("#", "^1000000") + ";end;");
            bad(1, batch + command.replace("#", "^-1") + ";end;");
        }
    }

    private static void leftmostError() {
        bad(2, "banks ^9 rows 0000001 columns 1; window 1; window 1; x");
        bad(1, "banks ^0000009 rows 99 columns 1;");
        bad(2, SIZES + "budget ^9;budget 9;");
        bad(3, SIZES + "budget 8;^budget 9;budget 0;");
        bad(3, SIZES + "batch 0 ^0 2 x:end;");
        bad(2, SIZES + "batch 0 ^2 0:end;");
        bad(1, SIZES + "batch 0 ^x 2:end;");
        bad(2, SIZES + "batch 0:add 0 ^9 9;" + "barrier;".repeat(60) + "end;");
        bad(3, SIZES + "batch 1 ^1:end;" + "batch 0:end;".repeat(12));
        bad(4, SIZES + "batch 0:" + "barrier;".repeat(60) + "^load 9 9;x");
        bad(4, SIZES + "batch 0:end;".repeat(12) + "^batch 9 x");
    }

    private static void lowestCode() {
        // A setting behind a batch cannot stand there, and the text has it already.
        bad(1, SIZES + "budget 1;batch 0:end;^budget 1;");
        bad(1, SIZES + "reduce 1;batch 0:end;^reduce 1;");
        bad(1, SIZES + "cache 1;batch 0:^cache 1;end;");
        // Behind the settings no number can stand, also none that is out of range.
        bad(1, SIZES + "budget 1 ^999999;");
        bad(1, "banks 1 ^999999 rows 1 columns 1;");
        // A run of more than 6 digits is out of range, too, or a bank that the batch has already.
        bad(1, SIZES + "budget ^9999999;");
        bad(1, SIZES + "batch 1 ^0000001:end;");
        // Behind 60 commands and 12 batches only what could stand there is too much.
        String sixty = SIZES + "batch 0:" + "barrier;".repeat(60);
        bad(1, sixty + "^batch 1:end;");
        bad(1, sixty + "^;");
        bad(1, sixty + "^barriers;");
        bad(1, sixty + "^rows;");
        bad(1, sixty + "^-");
        String twelve = SIZES + "batch 0:end;".repeat(12);
        bad(1, twelve + "^barrier;");
        bad(1, twelve + "^budget 1;");
        bad(1, twelve + "^end;");
        bad(1, twelve + "^;");
        bad(1, twelve + "^-");
    }

    private static void repeatedWords() {
        // "reduce" is a setting and a command, and as a command it may come again.
        good(1, SIZES + "reduce 5;batch 0:reduce add 0;reduce add 0;end;");
        bad(1, SIZES + "reduce ^add 0;");
        bad(1, SIZES + "batch 0:reduce ^5;end;");
        good(0, SIZES + "cache 0;window 1000;reduce 100;access 1;");
        String eight = "banks 8 rows 1 columns 1;batch 7 6 5 4 3 2 1 0";
        good(1, eight + ":end;");
        for (int bank = 0; bank < 8; bank++) {
            bad(3, eight + " ^" + bank + ":end;");
            bad(3, eight + " ^00" + bank);
        }
        bad(2, eight + " ^8:end;");
        bad(1, eight + " ^end;");
        bad(1, eight + "^");
        bad(1, eight + "^;");
    }

    private static void thirteenthBatch() {
        for (int batches = 0; batches <= 12; batches++) {
            good(batches, SIZES + "batch 0:end;".repeat(batches));
        }
        bad(4, SIZES + "batch 0:end;".repeat(12) + "^batch 0:end;batch 0:end;");
        bad(4, SIZES + "batch 0:end;".repeat(12) + "\n ^batch");
        good(12, SIZES + "batch 0:" + "barrier;".repeat(49) + "end;" + "batch 1:barrier;end;"
                .repeat(11));
    }

    private static void sixtyFirstCommand() {
        String[] commands = {
            "load 0 0", "store 0 0", "set 0 0", "add 0 0 0", "sub 0 0 0", "mul 0 0 0", "min 0 0 0",
            "max 0 0 0", "and 0 0 0", "or 0 0 0", "xor 0 0 0", "reduce add 0", "lanes add 0",
            "broadcast 0", "barrier",
        };
        String sixty = SIZES + "batch 0:" + "barrier;".repeat(59);
        for (String command : commands) {
            good(1, sixty + command + ";end;");
            bad(4, sixty + "barrier;^" + command + ";end;");
        }
        String parted = SIZES + ("batch 0:" + "barrier;".repeat(5) + "end;").repeat(11);
        good(12, parted + "batch 1:" + "barrier;".repeat(5) + "end;");
        bad(4, parted + "batch 1:" + "barrier;".repeat(5) + "^barrier;end;");
        good(2, SIZES + "batch 0:" + "barrier;".repeat(60) + "end;batch 1:end;");
        bad(4, SIZES + "batch 0:" + "barrier;".repeat(60) + "end;batch 1: ^barrier;end;");
    }

    private static void errorsComeAndGo() {
        ProcessingMemory x = new ProcessingMemory();
        String[] texts = {
            SIZES + "budget 9;", LEAST, SIZES + "budget 1;budget 1;", "", LEAST,
            SIZES + "batch 0:end;".repeat(13), SIZES + "batch 0:end", SIZES,
        };
        int[] codes = {2, 0, 3, 1, 0, 4, 1, 0};
        int[] positions = {32, -1, 34, 0, -1, 169, 36, -1};
        for (int i = 0; i < texts.length; i++) {
            Checks.type(x, texts[i]);
            outcome(x);
            due("5: load " + i, x.errorCode(), codes[i]);
            due("6: load " + i, x.errorPosition(), positions[i]);
            CHECKS.dueThrow("4: empty buffer " + i, Checks.INDEX, () -> x.truncate(1));
            x.append(0, 0, 0, 0, 0);
            due("5: only load() changes it " + i, x.errorCode(), codes[i]);
            due("6: only load() changes it " + i, x.errorPosition(), positions[i]);
            x.truncate(0);
        }
    }
}
