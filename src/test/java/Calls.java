import java.lang.reflect.InvocationTargetException;
import java.lang.reflect.Method;
import java.util.HashMap;
import java.util.List;
import java.util.Map;

/** One object, of the program or of the model, that is called by names and numbers. */
final class Calls {
    /** The calls that may change what others answer; all others only ask. */
    static final List<String> CHANGING = List.of(
        "group", "handles", "period", "drop", "keep", "use", "empty", "image", "back");

    private static final int MOST_CALLS = 512;
    private static final Map<String, Method> PROGRAM = new HashMap<>();
    private static final Map<String, Method> MODEL = new HashMap<>();

    private final Object subject;
    private final Map<String, Method> methods;
    private int calls = 0;

    private Calls(Object subject, Map<String, Method> methods) {
        this.subject = subject;
        this.methods = methods;
        if (methods.isEmpty()) {
            findMethods();
        }
    }

    static Calls ofProgram() {
        return new Calls(new TurningGroups(), PROGRAM);
    }

    static Calls ofModel() {
        return new Calls(new ReferenceModel(), MODEL);
    }

    private void findMethods() {
        for (Method method : TurningGroups.class.getMethods()) {
            if (method.getDeclaringClass() == TurningGroups.class) {
                try {
                    methods.put(method.getName(),
                        subject.getClass().getDeclaredMethod(method.getName(), method.getParameterTypes()));
                } catch (NoSuchMethodException e) {
                    throw new IllegalStateException(e);
                }
            }
        }
    }

    static String text(String name, int... numbers) {
        StringBuilder all = new StringBuilder(name).append('(');
        for (int i = 0; i < numbers.length; i++) {
            all.append(i == 0 ? "" : ", ").append(numbers[i]);
        }
        return all.append(')').toString();
    }

    int answer(String name, int... numbers) {
        calls++;
        if (calls > MOST_CALLS) {
            throw new IllegalStateException("more than 512 calls of one object: " + text(name, numbers));
        }
        Method method = methods.get(name);
        if (method == null) {
            throw new IllegalStateException("no such call: " + text(name, numbers));
        }
        Object[] given = new Object[numbers.length];
        for (int i = 0; i < numbers.length; i++) {
            given[i] = numbers[i];
        }
        try {
            return (Integer) method.invoke(subject, given);
        } catch (InvocationTargetException e) {
            throw new IllegalStateException(text(name, numbers) + " threw " + e.getCause(), e);
        } catch (IllegalAccessException e) {
            throw new IllegalStateException(e);
        }
    }
}
