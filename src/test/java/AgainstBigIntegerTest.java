import java.util.HashSet;
import java.util.Random;
import java.util.Set;

/** Runs of some 512 calls drawn from fixed seeds: the program and the model must answer alike. */
public final class AgainstBigIntegerTest {
    private static final int RUNS = 3000;
    private static final String[] MAKERS = {"add", "less", "times", "over", "rest", "measure", "whole"};
    private static final String[] ROW_ACTS = {"scale", "eliminate", "eliminate", "primitive", "dot", "take", "put", "put"};
    private static final long[] EDGES = {0, 1, -1, 2, -2, 3, 10, 1L << 31, (1L << 31) - 1, 1L << 32, 1L << 62,
        (1L << 62) - 1, Long.MAX_VALUE, Long.MIN_VALUE, Long.MIN_VALUE + 1, Integer.MIN_VALUE, Integer.MAX_VALUE};

    private final Random random;
    private final Duel duel = new Duel();
    private final int kind;

    private AgainstBigIntegerTest(long seed) {
        random = new Random(seed);
        kind = (int) (seed % 6);
    }

    /** May be given another number of runs, and the first seed. */
    public static void main(String[] args) {
        int runs = args.length > 0 ? Integer.parseInt(args[0]) : RUNS;
        int first = args.length > 1 ? Integer.parseInt(args[1]) : 0;
        int wrong = 0;
        Set<String> seen = new HashSet<>();
        for (int seed = first; seed < first + runs && wrong < 5; seed++) {
            AgainstBigIntegerTest test = new AgainstBigIntegerTest(seed);
            test.run(seen);
            if (!test.duel.alike) {
                wrong++;
                System.out.println("seed " + seed + ": " + test.duel.told());
            }
        }
        for (int refusal = PlanFractions.STATE; refusal <= PlanFractions.NONE; refusal++) {
            if (!seen.contains(String.valueOf(refusal))) {
                wrong++;
                System.out.println("no run ever answered " + refusal);
            }
        }
        System.out.println(wrong == 0 ? "all " + runs + " runs answer as the model does" : wrong + " faults");
        if (wrong != 0) {
            System.exit(1);
        }
    }

    private void run(Set<String> seen) {
        while (duel.alike && duel.calls < Duel.MOST_CALLS) {
            int values = duel.model.values.size();
            seen.add(draw());
            if (duel.alike && duel.model.values.size() == values + 1) {
                look(values);
            }
        }
    }

    /** Kind 4 looks little, to come to 240 VALUES. */
    private void look(int value) {
        if (kind == 4) {
            duel.make("of", value, random.nextInt(5));
        } else {
            duel.lookAt(value, 16);
            duel.make("part", value, random.nextInt(2));
        }
    }

    private String draw() {
        int dice = random.nextInt(100);
        int values = duel.model.values.size();
        if (kind == 5 || dice < 5) {
            return anyCall();
        }
        if (dice < 6 && random.nextInt(8) == 0) {
            return duel.make("clear");
        }
        if (dice < 25 || values < 3) {
            return duel.make("value", someLong(), someLong());
        }
        if (dice < 30) {
            return duel.make("row", 1 + random.nextInt(kind == 3 ? 10 : 3));
        }
        if (dice < 60 || duel.model.rows.isEmpty()) {
            String maker = kind == 1 ? "times" : MAKERS[random.nextInt(MAKERS.length)];
            return duel.make(maker, someValue(), maker.equals("whole") ? random.nextInt(4) : someValue());
        }
        if (dice < 85) {
            return rowAct(ROW_ACTS[random.nextInt(ROW_ACTS.length)]);
        }
        if (dice < 90) {
            return duel.make("alike", someRow(), someRow(), random.nextInt(2));
        }
        if (dice < 95) {
            duel.make("decimal", someValue(), random.nextInt(31), random.nextInt(2));
            return duel.make("letter", random.nextInt(40));
        }
        return dice < 97 ? duel.make("order", someValue(), someValue()) : duel.make("count", random.nextInt(5));
    }

    private String rowAct(String act) {
        switch (act) {
            case "scale": return duel.make(act, someRow(), someValue());
            case "eliminate": return duel.make(act, someRow(), someRow(), random.nextInt(3));
            case "primitive": return duel.make(act, someRow());
            case "dot": return duel.make(act, someRow(), someRow());
            case "take": return duel.make(act, someRow(), random.nextInt(4));
            default: return duel.make(act, someRow(), random.nextInt(3), someValue());
        }
    }

    /** Any call with any arguments, right or wrong. */
    private String anyCall() {
        String call = Model.CALLS[random.nextInt(Model.CALLS.length)];
        Class<?>[] types = Duel.typesOf(call);
        long[] in = new long[types.length];
        for (int i = 0; i < in.length; i++) {
            in[i] = random.nextInt(4) == 0 ? someLong() : random.nextInt(14) - 2;
            in[i] = types[i] == int.class ? (int) in[i] : in[i];
        }
        return call.equals("clear") && random.nextInt(4) != 0 ? duel.make("count", 0) : duel.make(call, in);
    }

    private int someRow() {
        return random.nextInt(duel.model.rows.size());
    }

    /** Late ones more often: they are the long ones. */
    private int someValue() {
        int count = duel.model.values.size();
        int back = Math.min(random.nextInt(count), random.nextInt(count));
        return count - 1 - back;
    }

    private long someLong() {
        int dice = random.nextInt(10);
        if (kind == 0 || dice < 4) {
            return random.nextInt(25) - 12;
        }
        if (dice < 6) {
            return EDGES[random.nextInt(EDGES.length)];
        }
        if (dice < 8) {
            return runsOfBits();
        }
        return random.nextLong() >> random.nextInt(64);
    }

    /** Long runs of 0s and 1s, where carries go far and guesses of quotients fail. */
    private long runsOfBits() {
        long bits = 0;
        for (int i = 0; i < 3; i++) {
            bits ^= -1L << random.nextInt(64);
        }
        return bits;
    }
}
