import java.nio.charset.StandardCharsets;
import java.util.Arrays;

/** Counts and prints the answers that are not as due. */
final class Checks {
    interface Call {
        Object answer();
    }

    interface Action {
        void act();
    }

    static final Class<IllegalArgumentException> ARGUMENT = IllegalArgumentException.class;
    static final Class<IllegalStateException> STATE = IllegalStateException.class;
    static final Class<IndexOutOfBoundsException> INDEX = IndexOutOfBoundsException.class;
    static final Class<java.util.NoSuchElementException> ELEMENT =
            java.util.NoSuchElementException.class;

    private int wrong = 0;
    private int checked = 0;

    void due(String name, Object got, Object want) {
        checked++;
        if (!got.equals(want)) {
            wrong++;
            System.out.println(name + " answered " + got + ", due is " + want);
        }
    }

    /** Calls and compares the class of what is thrown, which has to be exactly this one. */
    void dueThrow(String name, Class<?> want, Action action) {
        checked++;
        Object got = "nothing";
        try {
            action.act();
        } catch (RuntimeException e) {
            got = e.getClass();
        }
        if (!got.equals(want)) {
            wrong++;
            System.out.println(name + " threw " + got + ", due is " + want);
        }
    }

    /** Prints the result and ends the program, with exit code 1 if an answer was wrong. */
    void end() {
        System.out.println(checked + " answers, " + wrong + " of them not as due");
        System.exit(wrong == 0 ? 0 : 1);
    }

    /** Appends a text and truncates the buffer to its end. */
    static void type(ProcessingMemory memory, String text) {
        byte[] bytes = text.getBytes(StandardCharsets.ISO_8859_1);
        byte[] padded = Arrays.copyOf(bytes, (bytes.length + 19) / 20 * 20);
        for (int i = 0; i < padded.length; i += 20) {
            memory.append(word(padded, i), word(padded, i + 4), word(padded, i + 8),
                    word(padded, i + 12), word(padded, i + 16));
        }
        memory.truncate(bytes.length);
    }

    static int word(byte[] bytes, int at) {
        int word = 0;
        for (int i = 0; i < 4; i++) {
            word = word << 8 | bytes[at + i] & 255;
        }
        return word;
    }

    /** Makes an object with a program. */
    static ProcessingMemory with(String text) {
        ProcessingMemory memory = new ProcessingMemory();
        type(memory, text);
        memory.load();
        return memory;
    }

    /** Submits batches and runs them. */
    static void runAll(ProcessingMemory memory, int... batches) {
        for (int batch : batches) {
            memory.submit(batch);
            memory.run(1);
        }
    }

    static void submitAll(ProcessingMemory memory, int... batches) {
        for (int batch : batches) {
            memory.submit(batch);
        }
    }
}
