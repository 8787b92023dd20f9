import java.math.BigInteger;

/** Counts and prints answers that are not the ones due; the tests of the project share it. */
final class Check {
    private int wrong;
    private int asked;

    interface Call {
        long answer();
    }

    void due(String call, long got, long want) {
        asked++;
        if (got != want) {
            wrong++;
            System.out.println(call + " answered " + got + ", due is " + want);
        }
    }

    void due(String call, Object got, Object want) {
        asked++;
        if (!want.equals(got)) {
            wrong++;
            System.out.println(call + " answered " + got + ", due is " + want);
        }
    }

    /** Just this class is due, not one below it. */
    void throwsJust(String call, Class<? extends RuntimeException> want, Call made) {
        due(call, answer(made), "throws." + want.getSimpleName());
    }

    /** What a call answers, or throws.Name of just the class that it throws. */
    static String answer(Call made) {
        try {
            return String.valueOf(made.answer());
        } catch (RuntimeException thrown) {
            return thrown(thrown);
        }
    }

    /** Told apart: what a throw statement of the program throws, and what the machine throws by itself. */
    static String thrown(Throwable thrown) {
        String text = String.valueOf(thrown.getMessage());
        boolean byMachine = text.equals("/ by zero") || text.startsWith("Index ") || text.startsWith("Cannot ")
            || text.startsWith("arraycopy");
        return (byMachine ? "machine." : "throws.") + thrown.getClass().getSimpleName();
    }

    void end() {
        System.out.println(wrong == 0 ? asked + " answers are as due" : wrong + " answers are not as due");
        if (wrong != 0) {
            System.exit(1);
        }
    }

    /** ABOVE (part 0) or BELOW (1) of a VALUE, read limb by limb. */
    static BigInteger side(PlanFractions x, int value, int part) {
        BigInteger size = BigInteger.ZERO;
        int limbs = (x.of(value, 2 + part) + 31) / 32;
        for (int k = limbs - 1; k >= 0; k--) {
            size = size.shiftLeft(32).or(BigInteger.valueOf(x.limb(value, part, k) & 0xFFFFFFFFL));
        }
        return part == 0 && x.of(value, 1) < 0 ? size.negate() : size;
    }

    /** A VALUE as above/below. */
    static String text(PlanFractions x, int value) {
        return side(x, value, 0) + "/" + side(x, value, 1);
    }

    /** What was WRITTEN latest. */
    static String written(PlanFractions x) {
        StringBuilder text = new StringBuilder();
        int letter = x.letter(0);
        for (int i = 1; letter != PlanFractions.NONE; i++) {
            text.append((char) letter);
            letter = x.letter(i);
        }
        return text.toString();
    }
}
