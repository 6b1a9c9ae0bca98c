import java.lang.reflect.Field;

/**
 * What an object answers after its 512th call is free, but no call may make the machine throw, in
 * any state (LANGUAGE.md, rule 7). The states that only billions of calls lead to are made by
 * reflection here.
 */
public final class LongUseTest {
    private static final Checks CHECKS = new Checks();
    private static final String TEXT =
            "banks 2 rows 16 columns 1;budget 8;"
                    + "batch 0 1:load 0 0;load 1 1;load 2 2;load 3 3;load 0 4;load 1 5;load 2 6;"
                    + "load 3 7;load 0 8;load 1 9;end;batch 0:end;";

    public static void main(String[] args) throws ReflectiveOperationException {
        moreRunsThanIntsCount();
        moreActivationsThanIntsCount();
        CHECKS.end();
    }

    private static void moreRunsThanIntsCount() throws ReflectiveOperationException {
        ProcessingMemory x = Checks.with(TEXT);
        Object agenda = part(part(x, "state"), "agenda");
        Field runCount = field(agenda, "runCount");
        runCount.setInt(agenda, Integer.MAX_VALUE - 20);
        for (int i = 0; i < 60; i++) {
            x.submit(1);
            CHECKS.due("run " + i, x.run(1), 1);
        }
        CHECKS.due("the runs have wrapped around", x.count(5) < 0, true);
        CHECKS.dueThrow("runOf(0, 0)", Checks.INDEX, () -> x.runOf(0, 0));
    }

    private static void moreActivationsThanIntsCount() throws ReflectiveOperationException {
        ProcessingMemory x = Checks.with(TEXT);
        int[] counts = (int[]) part(part(part(x, "state"), "times"), "activationCounts");
        for (int bank = 0; bank < 2; bank++) {
            counts[bank] = Integer.MAX_VALUE - 5;
        }
        Checks.submitAll(x, 0, 0, 0);
        CHECKS.due("wouldFinish(NONE)", x.wouldFinish(-1), x.bestFinish());
        CHECKS.due("run(3)", x.run(3), 3);
        CHECKS.due("the activations have wrapped around", counts[1] < 0, true);
        CHECKS.due("openRow(1)", x.openRow(1), 9);
    }

    private static Object part(Object whole, String name) throws ReflectiveOperationException {
        return field(whole, name).get(whole);
    }

    private static Field field(Object whole, String name) throws ReflectiveOperationException {
        Field field = whole.getClass().getDeclaredField(name);
        field.setAccessible(true);
        return field;
    }
}
