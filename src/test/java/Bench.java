import java.math.BigInteger;

/** What the tests share: names, NUMBERS of every LENGTH, full objects, ROWS, and ways to read them again. */
abstract class Bench {
    static final int NONE = PlanFractions.NONE, BAD = PlanFractions.BAD, FULL = PlanFractions.FULL;
    static final int WIDE = PlanFractions.WIDE, STATE = PlanFractions.STATE;
    static final long LEAST = Long.MIN_VALUE, GREATEST = Long.MAX_VALUE;
    static final int MOST_VALUES = 240, MOST_ROWS = 20, MOST_PLACES = 10, MOST_LENGTH = 512;

    /** The greatest whole number that is not WIDE. */
    static final BigInteger TOP = BigInteger.TWO.pow(MOST_LENGTH).subtract(BigInteger.ONE);
    static final int[] NOT_0_OR_1 = {-1, 2, Integer.MIN_VALUE, Integer.MAX_VALUE};

    static final Check check = new Check();
    private static final int PIECE = 62;

    /** A VALUE is this fraction. */
    static void is(String call, PlanFractions x, int value, String want) {
        check.due(call + " is a VALUE", value >= 0, true);
        if (value >= 0) {
            check.due(call, Check.text(x, value), want);
        }
    }

    static BigInteger two(int power) {
        return BigInteger.TWO.pow(power);
    }

    /** A VALUE that is a whole number of up to 512 bits, made of pieces that are longs: 30 VALUES at most. */
    static int big(PlanFractions x, BigInteger number) {
        int base = x.value(1L << PIECE, 1);
        int made = x.value(0, 1);
        BigInteger mask = two(PIECE).subtract(BigInteger.ONE);
        for (int k = number.abs().bitLength() / PIECE; k >= 0; k--) {
            long piece = number.abs().shiftRight(PIECE * k).and(mask).longValue();
            if (x.of(made, 1) != 0) {
                made = x.times(made, base);
            }
            if (piece != 0) {
                made = x.add(made, x.value(number.signum() * piece, 1));
            }
        }
        return made;
    }

    /** A VALUE that is this fraction. */
    static int number(PlanFractions x, Model.Ratio ratio) {
        int above = big(x, ratio.above);
        return ratio.below.equals(BigInteger.ONE) ? above : x.over(above, big(x, ratio.below));
    }

    static Model.Ratio ratio(BigInteger above, BigInteger below) {
        return new Model.Ratio(above, below);
    }

    static Model.Ratio ratio(BigInteger whole) {
        return ratio(whole, BigInteger.ONE);
    }

    static Model.Ratio ratio(long above, long below) {
        return ratio(BigInteger.valueOf(above), BigInteger.valueOf(below));
    }

    /** Fills up the VALUES with 1. */
    static void fill(PlanFractions x) {
        for (int i = x.count(0); i < MOST_VALUES; i++) {
            x.value(1, 1);
        }
    }

    /** A ROW of these: above, below, above, below, .. */
    static int rowOf(PlanFractions x, long... parts) {
        int row = x.row(parts.length / 2);
        for (int k = 0; k < parts.length / 2; k++) {
            x.put(row, k, x.value(parts[2 * k], parts[2 * k + 1]));
        }
        return row;
    }

    static int rowOfValues(PlanFractions x, int... values) {
        int row = x.row(values.length);
        for (int k = 0; k < values.length; k++) {
            x.put(row, k, values[k]);
        }
        return row;
    }

    /** A ROW of n PLACES, all one VALUE but for PLACE k. */
    static int rowBut(PlanFractions x, int n, int all, int k, int there) {
        int row = x.row(n);
        for (int i = 0; i < n; i++) {
            x.put(row, i, i == k ? there : all);
        }
        return row;
    }

    /** A ROW's NUMBERS; needs a free VALUE for each. */
    static String places(PlanFractions x, int row, int n) {
        StringBuilder text = new StringBuilder();
        for (int k = 0; k < n; k++) {
            text.append(k == 0 ? "" : " ").append(Check.text(x, x.take(row, k)));
        }
        return text.toString();
    }
}
