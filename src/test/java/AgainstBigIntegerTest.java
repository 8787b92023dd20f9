import java.lang.reflect.InvocationTargetException;
import java.lang.reflect.Method;
import java.util.Arrays;
import java.util.HashMap;
import java.util.Map;
import java.util.Random;

/** Runs of at most 512 calls drawn from fixed seeds: the program and the model must answer alike. */
public final class AgainstBigIntegerTest {
    private static final int RUNS = 3000;
    private static final int MOST_CALLS = 512;
    private static final String[] MAKERS = {"add", "less", "times", "over", "rest", "measure", "whole"};
    private static final String[] ROW_ACTS = {"scale", "eliminate", "eliminate", "primitive", "dot", "take", "put", "put"};
    private static final long[] EDGES = {0, 1, -1, 2, -2, 3, 10, 1L << 31, (1L << 31) - 1, 1L << 32, 1L << 62,
        (1L << 62) - 1, Long.MAX_VALUE, Long.MIN_VALUE, Long.MIN_VALUE + 1, Integer.MIN_VALUE, Integer.MAX_VALUE};

    private final Random random;
    private final PlanFractions program = new PlanFractions();
    private final Model model = new Model();
    private final Map<String, Method> methods;
    private final StringBuilder told = new StringBuilder();
    private final int kind;
    private int calls;
    private boolean alike = true;

    private AgainstBigIntegerTest(long seed, Map<String, Method> methods) {
        this.random = new Random(seed);
        this.kind = (int) (seed % 6);
        this.methods = methods;
    }

    public static void main(String[] args) throws IllegalAccessException {
        int runs = args.length > 0 ? Integer.parseInt(args[0]) : RUNS;
        int first = args.length > 1 ? Integer.parseInt(args[1]) : 0;
        Map<String, Method> methods = new HashMap<>();
        for (Method method : PlanFractions.class.getMethods()) {
            if (method.getDeclaringClass() == PlanFractions.class) {
                methods.put(method.getName(), method);
            }
        }
        int wrong = 0;
        Map<String, Integer> seen = new HashMap<>();
        for (int seed = first; seed < first + runs && wrong < 5; seed++) {
            AgainstBigIntegerTest test = new AgainstBigIntegerTest(seed, methods);
            test.run(seen);
            if (!test.alike) {
                wrong++;
                System.out.println("seed " + seed + ": " + test.told);
            }
        }
        for (int refusal = PlanFractions.STATE; refusal <= PlanFractions.NONE; refusal++) {
            if (!seen.containsKey(String.valueOf(refusal))) {
                wrong++;
                System.out.println("no run ever answered " + refusal);
            }
        }
        System.out.println(wrong == 0 ? "all " + runs + " runs answer as the model does" : wrong + " faults");
        if (wrong != 0) {
            System.exit(1);
        }
    }

    private void run(Map<String, Integer> seen) throws IllegalAccessException {
        while (alike && calls < MOST_CALLS) {
            int values = model.values.size();
            String answer = draw();
            seen.merge(answer, 1, Integer::sum);
            if (alike && model.values.size() == values + 1) {
                lookAt(values);
            }
        }
    }

    private String draw() throws IllegalAccessException {
        int dice = random.nextInt(100);
        if (kind == 5 || dice < 5) {
            return anyCall();
        }
        if (dice < 6 && random.nextInt(8) == 0) {
            return make("clear");
        }
        if (dice < 25 || model.values.size() < 3) {
            return make("value", someLong(), someLong());
        }
        if (dice < 30) {
            return make("row", 1 + random.nextInt(kind == 4 ? 10 : 3));
        }
        if (dice < 60 || model.rows.isEmpty()) {
            String maker = kind == 1 ? "times" : MAKERS[random.nextInt(MAKERS.length)];
            return make(maker, someValue(), maker.equals("whole") ? random.nextInt(4) : someValue());
        }
        if (dice < 85) {
            return rowAct(ROW_ACTS[random.nextInt(ROW_ACTS.length)]);
        }
        if (dice < 90) {
            return make("alike", someRow(), someRow(), random.nextInt(2));
        }
        if (dice < 95) {
            make("decimal", someValue(), random.nextInt(31), random.nextInt(2));
            return make("letter", random.nextInt(40));
        }
        return dice < 97 ? make("order", someValue(), someValue()) : make("count", random.nextInt(5));
    }

    private String rowAct(String act) throws IllegalAccessException {
        switch (act) {
            case "scale": return make(act, someRow(), someValue());
            case "eliminate": return make(act, someRow(), someRow(), random.nextInt(3));
            case "primitive": return make(act, someRow());
            case "dot": return make(act, someRow(), someRow());
            case "take": return make(act, someRow(), random.nextInt(4));
            default: return make(act, someRow(), random.nextInt(3), someValue());
        }
    }

    /** Any call with any arguments, right or wrong. */
    private String anyCall() throws IllegalAccessException {
        String call = Model.CALLS[random.nextInt(Model.CALLS.length)];
        Class<?>[] types = methods.get(call).getParameterTypes();
        long[] in = new long[types.length];
        for (int i = 0; i < in.length; i++) {
            in[i] = random.nextInt(4) == 0 ? someLong() : random.nextInt(14) - 2;
            in[i] = types[i] == int.class ? (int) in[i] : in[i];
        }
        return call.equals("clear") && random.nextInt(4) != 0 ? make("count", 0) : make(call, in);
    }

    /** Reads a new VALUE's limbs in as many calls as are left. */
    private void lookAt(int value) throws IllegalAccessException {
        for (int part = 0; part < 2; part++) {
            int limbs = (program.of(value, 2 + part) + 31) / 32;
            make("of", value, 2 + part);
            for (int k = 0; k < limbs && calls < MOST_CALLS && (kind != 4 || k == 0); k++) {
                make("limb", value, part, k);
            }
        }
        make("of", value, random.nextInt(2));
        make("part", value, random.nextInt(2));
    }

    private String make(String call, long... in) throws IllegalAccessException {
        calls++;
        Class<?>[] types = methods.get(call).getParameterTypes();
        Object[] given = new Object[in.length];
        for (int i = 0; i < in.length; i++) {
            if (types[i] == int.class) {
                given[i] = (int) in[i];
            } else {
                given[i] = in[i];
            }
        }
        String got;
        try {
            got = String.valueOf(methods.get(call).invoke(program, given));
        } catch (InvocationTargetException thrown) {
            got = "throws." + thrown.getCause().getClass().getSimpleName();
        }
        String due = model.answer(call, in);
        told.append(call).append(Arrays.toString(in)).append(" = ").append(got).append("; ");
        if (!got.equals(due) && alike) {
            alike = false;
            told.append("due is ").append(due);
        }
        return got;
    }

    private int someRow() {
        return random.nextInt(model.rows.size());
    }

    /** Late ones more often: they are the long ones. */
    private int someValue() {
        int count = model.values.size();
        int back = Math.min(random.nextInt(count), random.nextInt(count));
        return count - 1 - back;
    }

    private long someLong() {
        int dice = random.nextInt(10);
        if (kind == 0 || dice < 4) {
            return random.nextInt(25) - 12;
        }
        if (dice < 6) {
            return EDGES[random.nextInt(EDGES.length)];
        }
        if (dice < 8) {
            return runsOfBits();
        }
        return random.nextLong() >> random.nextInt(64);
    }

    /** Long runs of 0s and 1s, where carries go far and guesses of quotients fail. */
    private long runsOfBits() {
        long bits = 0;
        for (int i = 0; i < 3; i++) {
            bits ^= -1L << random.nextInt(64);
        }
        return bits;
    }
}
