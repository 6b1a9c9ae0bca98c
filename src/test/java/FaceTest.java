import java.lang.reflect.Constructor;
import java.lang.reflect.Field;
import java.lang.reflect.Method;
import java.lang.reflect.Modifier;
import java.util.Set;
import java.util.TreeSet;

/** The face of the class: what the document names, with its exceptions, and nothing else. */
public final class FaceTest {
    private static final Checks CHECKS = new Checks();
    private static final String[] FACE = {
        "int append(int int int int int) IllegalStateException",
        "int truncate(int) IndexOutOfBoundsException",
        "int load() IllegalArgumentException",
        "int errorCode()",
        "int errorPosition()",
        "int count(int) IllegalArgumentException",
        "int commands(int) IndexOutOfBoundsException",
        "int banks(int) IndexOutOfBoundsException",
        "int memory(int int int) IndexOutOfBoundsException",
        "int fill(int int int int) IndexOutOfBoundsException",
        "int register(int int int) IndexOutOfBoundsException",
        "int hostRead(int int int) IndexOutOfBoundsException",
        "int hostWrite(int int int int) IndexOutOfBoundsException",
        "boolean flush(int int) IndexOutOfBoundsException",
        "int flushAll()",
        "boolean invalidate(int int) IndexOutOfBoundsException",
        "int line(int int) IndexOutOfBoundsException",
        "int cache(int) IllegalArgumentException",
        "boolean setCoherence(boolean)",
        "int submit(int) IndexOutOfBoundsException IllegalStateException",
        "int queued(int) IndexOutOfBoundsException",
        "int run(int) IllegalArgumentException",
        "int runOf(int int) IndexOutOfBoundsException IllegalArgumentException",
        "int clock(int) IndexOutOfBoundsException",
        "int ready(int int) IndexOutOfBoundsException",
        "int openRow(int) IndexOutOfBoundsException",
        "int stalls(int int) IndexOutOfBoundsException IllegalArgumentException",
        "int finish()",
        "double utilization(int) IndexOutOfBoundsException IllegalStateException",
        "int wouldFinish(int) IndexOutOfBoundsException",
        "int wouldBe(int int int) IndexOutOfBoundsException",
        "boolean isConflict(int int) IndexOutOfBoundsException",
        "int longestChain()",
        "int bestFinish() IllegalStateException",
        "int bestOrder(int) IllegalStateException IndexOutOfBoundsException",
        "int reorder() IllegalStateException",
        "int budgetFor(int) NoSuchElementException",
        "void save(int) IndexOutOfBoundsException",
        "void restore(int) IndexOutOfBoundsException NoSuchElementException",
    };

    public static void main(String[] args) {
        Class<?> type = ProcessingMemory.class;
        CHECKS.due("public and final", type.getModifiers(), Modifier.PUBLIC | Modifier.FINAL);
        methods(type);
        fields(type);
        constructors(type);
        nestedClasses(type);
        CHECKS.end();
    }

    private static void methods(Class<?> type) {
        Set<String> got = new TreeSet<>();
        for (Method method : type.getDeclaredMethods()) {
            if (!Modifier.isPrivate(method.getModifiers())) {
                CHECKS.due(method.getName(), method.getModifiers(), Modifier.PUBLIC);
                got.add(signature(method));
            }
        }
        CHECKS.due("methods", got, new TreeSet<>(Set.of(FACE)));
    }

    private static String signature(Method method) {
        StringBuilder text = new StringBuilder();
        text.append(method.getReturnType().getSimpleName()).append(" ");
        text.append(method.getName()).append("(");
        String gap = "";
        for (Class<?> parameter : method.getParameterTypes()) {
            text.append(gap).append(parameter.getSimpleName());
            gap = " ";
        }
        text.append(")");
        for (Class<?> exception : method.getExceptionTypes()) {
            text.append(" ").append(exception.getSimpleName());
        }
        return text.toString();
    }

    private static void fields(Class<?> type) {
        Set<String> got = new TreeSet<>();
        for (Field field : type.getDeclaredFields()) {
            int modifiers = field.getModifiers();
            if (!Modifier.isPrivate(modifiers)) {
                got.add(Modifier.toString(modifiers) + " " + field.getType() + " "
                        + field.getName());
            }
            if (Modifier.isStatic(modifiers)) {
                CHECKS.due(field.getName() + " is final", Modifier.isFinal(modifiers), true);
            }
        }
        CHECKS.due("fields", got, Set.of("public static final int NONE"));
    }

    private static void constructors(Class<?> type) {
        Constructor<?>[] all = type.getDeclaredConstructors();
        CHECKS.due("constructors", all.length, 1);
        CHECKS.due("constructor", all[0].getModifiers(), Modifier.PUBLIC);
        CHECKS.due("its parameters", all[0].getParameterCount(), 0);
        CHECKS.due("its exceptions", all[0].getExceptionTypes().length, 0);
    }

    private static void nestedClasses(Class<?> type) {
        Set<String> faceNames = new TreeSet<>();
        for (String signature : FACE) {
            faceNames.add(signature.substring(signature.indexOf(' ') + 1, signature.indexOf('(')));
        }
        for (Method method : type.getDeclaredMethods()) {
            if (Modifier.isPrivate(method.getModifiers())) {
                CHECKS.due(method.getName(), faceNames.contains(method.getName()), false);
            }
        }
        for (Class<?> nested : type.getDeclaredClasses()) {
            CHECKS.due(nested + " is static", Modifier.isStatic(nested.getModifiers()), true);
            for (Method method : nested.getDeclaredMethods()) {
                CHECKS.due(method.getName(), faceNames.contains(method.getName()), false);
            }
            for (Field field : nested.getDeclaredFields()) {
                int modifiers = field.getModifiers();
                CHECKS.due(field.getName() + " is final if it is static",
                        !Modifier.isStatic(modifiers) || Modifier.isFinal(modifiers), true);
            }
        }
    }
}
