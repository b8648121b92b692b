import java.lang.reflect.InvocationTargetException;
import java.lang.reflect.Method;
import java.lang.reflect.Modifier;
import java.util.HashMap;
import java.util.Map;
import java.util.StringJoiner;

/**
 * A BusBlocks or a Reference that is asked by the names of the calls; true counts 1 and false 0,
 * asked or answered. No object is asked more often than the document promises answers for.
 */
final class Bench {
    static final int MOST_CALLS = 512;

    private final Object it;
    private final Map<String, Method> methods = new HashMap<>();
    private int calls = 0;

    private Bench(Object it) {
        this.it = it;
        for (Method m : it.getClass().getDeclaredMethods()) {
            if (!Modifier.isPrivate(m.getModifiers())) {
                methods.put(m.getName(), m);
            }
        }
    }

    static Bench ofBusBlocks() {
        return new Bench(new BusBlocks());
    }

    static Bench ofReference() {
        return new Bench(new Reference());
    }

    int left() {
        return MOST_CALLS - calls;
    }

    int ask(String call, int... of) {
        if (left() == 0) {
            throw new IllegalStateException("a test asks one object too often: " + text(call, of));
        }
        calls++;
        Method m = methods.get(call);
        Class<?>[] kinds = m.getParameterTypes();
        Object[] boxed = new Object[of.length];
        for (int i = 0; i < of.length; i++) {
            if (kinds[i] == boolean.class) {
                boxed[i] = of[i] == 1;
            } else {
                boxed[i] = of[i];
            }
        }
        try {
            Object answer = m.invoke(it, boxed);
            return answer instanceof Boolean yes ? yes ? 1 : 0 : (Integer) answer;
        } catch (IllegalAccessException | InvocationTargetException e) {
            throw new IllegalStateException(text(call, of), e);
        }
    }

    static String text(String call, int... of) {
        StringJoiner text = new StringJoiner(", ", call + "(", ")");
        for (int x : of) {
            text.add(String.valueOf(x));
        }
        return text.toString();
    }
}
