import java.lang.reflect.InvocationTargetException;
import java.lang.reflect.Method;
import java.util.Arrays;
import java.util.HashMap;
import java.util.Map;

/** One new object of the program beside one of the model: each call is made of both and must be answered alike. */
final class Duel {
    static final int MOST_CALLS = 512;
    private static final Map<String, Method> METHODS = methods();

    final PlanFractions program = new PlanFractions();
    final Model model = new Model();
    int calls;
    boolean alike = true;
    private final StringBuilder told = new StringBuilder();

    private static Map<String, Method> methods() {
        Map<String, Method> methods = new HashMap<>();
        for (Method method : PlanFractions.class.getMethods()) {
            if (method.getDeclaringClass() == PlanFractions.class) {
                methods.put(method.getName(), method);
            }
        }
        return methods;
    }

    static Class<?>[] typesOf(String call) {
        return METHODS.get(call).getParameterTypes();
    }

    /** The run so far, with what is due instead of the first wrong answer. */
    String told() {
        return told.toString();
    }

    /** What calls after the last promised one answer is free, so the model alone answers them. */
    String make(String call, long... in) {
        String due = model.answer(call, in);
        if (calls == MOST_CALLS) {
            return due;
        }
        calls++;
        String got = answer(call, in);
        if (alike) {
            told.append(call).append(Arrays.toString(in)).append(" = ").append(got).append("; ");
        }
        if (alike && !got.equals(due)) {
            alike = false;
            told.append("due is ").append(due);
        }
        return got;
    }

    private String answer(String call, long[] in) {
        Class<?>[] types = typesOf(call);
        Object[] given = new Object[in.length];
        for (int i = 0; i < in.length; i++) {
            if (types[i] == int.class) {
                given[i] = (int) in[i];
            } else {
                given[i] = in[i];
            }
        }
        try {
            return String.valueOf(METHODS.get(call).invoke(program, given));
        } catch (InvocationTargetException thrown) {
            return Check.thrown(thrown.getCause());
        } catch (IllegalAccessException hidden) {
            return "hidden";
        }
    }

    /** Reads a VALUE, at most so many limbs of each part, in as many calls as are left. */
    void lookAt(int value, int mostLimbs) {
        for (int part = 0; part < 2; part++) {
            int length = Integer.parseInt(make("of", value, 2 + part));
            for (int k = 0; k < (length + 31) / 32 && k < mostLimbs && calls < MOST_CALLS; k++) {
                make("limb", value, part, k);
            }
        }
        make("of", value, 1);
    }
}
