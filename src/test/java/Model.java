import java.math.BigDecimal;
import java.math.BigInteger;
import java.math.RoundingMode;
import java.util.ArrayList;
import java.util.List;

/** The document once more on BigInteger, as plainly as it goes: what a call should answer, or throw, as a text. */
final class Model {
    static final String[] CALLS = {"value", "add", "less", "times", "over", "rest", "measure", "whole", "order", "of",
        "part", "limb", "exact", "row", "put", "take", "dot", "scale", "eliminate", "primitive", "lead", "alike",
        "decimal", "letter", "count", "clear"};
    private static final String ARITHMETIC = "throws.ArithmeticException";
    private static final String ARGUMENT = "throws.IllegalArgumentException";
    private static final String INDEX = "throws.ArrayIndexOutOfBoundsException";
    private static final long NONE = -1, BAD = -2, FULL = -3, WIDE = -4, STATE = -5;

    /** Told on the way: a NUMBER is WIDE. */
    private static final class TooLong extends RuntimeException {
        private static final long serialVersionUID = 1;
    }

    /** A fraction of any size in least terms. */
    static final class Ratio {
        static final Ratio ZERO = new Ratio(BigInteger.ZERO, BigInteger.ONE);
        final BigInteger above;
        final BigInteger below;

        Ratio(BigInteger top, BigInteger bottom) {
            BigInteger common = top.gcd(bottom);
            BigInteger divisor = bottom.signum() < 0 ? common.negate() : common;
            above = top.divide(divisor);
            below = bottom.divide(divisor);
        }

        Ratio plus(Ratio b) {
            return new Ratio(above.multiply(b.below).add(b.above.multiply(below)), below.multiply(b.below));
        }

        Ratio negated() {
            return new Ratio(above.negate(), below);
        }

        Ratio by(Ratio b) {
            return new Ratio(above.multiply(b.above), below.multiply(b.below));
        }

        Ratio dividedBy(Ratio b) {
            return new Ratio(above.multiply(b.below), below.multiply(b.above));
        }

        Ratio floor() {
            BigInteger[] both = above.divideAndRemainder(below);
            return new Ratio(both[1].signum() < 0 ? both[0].subtract(BigInteger.ONE) : both[0], BigInteger.ONE);
        }

        Ratio common(Ratio b) {
            BigInteger top = above.multiply(b.below).gcd(b.above.multiply(below));
            return new Ratio(top, below.multiply(b.below));
        }

        int greaterLength() {
            return Math.max(above.abs().bitLength(), below.bitLength());
        }

        /** Not WIDE, or TooLong. */
        Ratio told() {
            if (greaterLength() > 512) {
                throw new TooLong();
            }
            return this;
        }

        boolean same(Ratio b) {
            return above.equals(b.above) && below.equals(b.below);
        }

        boolean isSmall() {
            return above.bitLength() < 64 && below.bitLength() < 64;
        }

        @Override
        public String toString() {
            return above + "/" + below;
        }
    }

    final List<Ratio> values = new ArrayList<>();
    final List<Ratio[]> rows = new ArrayList<>();
    private String written = "";
    private int wideCalls;

    String answer(String call, long[] in) {
        try {
            return String.valueOf(answered(call, in));
        } catch (TooLong told) {
            wideCalls++;
            return String.valueOf(WIDE);
        }
    }

    private Object answered(String call, long[] in) {
        switch (call) {
            case "value": return value(in[0], in[1]);
            case "add": case "less": case "times": case "over": case "rest": case "measure":
                return onTwo(call, in[0], in[1]);
            case "whole": return whole(in[0], in[1]);
            case "order": return order(in[0], in[1]);
            case "of": return of(in[0], in[1]);
            case "part": return part(in[0], in[1]);
            case "limb": return limb(in[0], in[1], in[2]);
            case "exact": return exact(in[0], BigInteger.valueOf(in[1]), BigInteger.valueOf(in[2]));
            case "row": return row(in[0]);
            case "put": return put(in[0], in[1], in[2]);
            case "take": return take(in[0], in[1]);
            case "dot": return dot(in[0], in[1]);
            case "scale": return scale(in[0], in[1]);
            case "eliminate": return eliminate(in[0], in[1], in[2]);
            case "primitive": return primitive(in[0]);
            case "lead": return isRow(in[0]) ? lead(rows.get((int) in[0])) : BAD;
            case "alike": return alike(in[0], in[1], in[2]);
            case "decimal": return decimal(in[0], in[1], in[2]);
            case "letter": return in[0] >= 0 && in[0] < written.length() ? (long) written.charAt((int) in[0]) : NONE;
            case "count": return count(in[0]);
            default: return clear();
        }
    }

    private boolean isValue(long v) {
        return v >= 0 && v < values.size();
    }

    private boolean isRow(long r) {
        return r >= 0 && r < rows.size();
    }

    private boolean isPlace(long r, long k) {
        return isRow(r) && k >= 0 && k < rows.get((int) r).length;
    }

    private boolean likeRows(long r, long s) {
        return isRow(r) && isRow(s) && rows.get((int) r).length == rows.get((int) s).length;
    }

    private boolean isFull() {
        return values.size() == 240;
    }

    private long keep(Ratio number) {
        values.add(number.told());
        return values.size() - 1;
    }

    private Object value(long above, long below) {
        if (below == 0) {
            return ARITHMETIC;
        }
        return isFull() ? FULL : keep(new Ratio(BigInteger.valueOf(above), BigInteger.valueOf(below)));
    }

    private Object onTwo(String call, long first, long second) {
        if (!isValue(first) || !isValue(second)) {
            return BAD;
        }
        Ratio a = values.get((int) first), b = values.get((int) second);
        if ((call.equals("over") || call.equals("rest")) && b.above.signum() == 0) {
            return ARITHMETIC;
        }
        if (isFull()) {
            return FULL;
        }
        return keep(made(call, a, b));
    }

    /** What a call on two makes of them, of any LENGTH. */
    static Ratio made(String call, Ratio a, Ratio b) {
        switch (call) {
            case "add": return a.plus(b);
            case "less": return a.plus(b.negated());
            case "times": return a.by(b);
            case "over": return a.dividedBy(b);
            case "rest": return a.plus(b.by(a.dividedBy(b).floor()).negated());
            default: return a.common(b);
        }
    }

    private Object whole(long a, long how) {
        if (!isValue(a) || how < 0 || how > 3) {
            return BAD;
        }
        if (isFull()) {
            return FULL;
        }
        RoundingMode[] modes = {RoundingMode.FLOOR, RoundingMode.CEILING, RoundingMode.HALF_EVEN, RoundingMode.DOWN};
        Ratio r = values.get((int) a);
        return keep(new Ratio(multiple(r, 0, modes[(int) how]).unscaledValue(), BigInteger.ONE));
    }

    private static BigDecimal multiple(Ratio r, int n, RoundingMode mode) {
        return new BigDecimal(r.above).divide(new BigDecimal(r.below), n, mode);
    }

    private Object order(long a, long b) {
        if (!isValue(a) || !isValue(b)) {
            return BAD;
        }
        return (long) values.get((int) a).plus(values.get((int) b).negated()).above.signum();
    }

    private Object of(long value, long what) {
        if (!isValue(value) || what < 0 || what > 4) {
            return BAD;
        }
        Ratio r = values.get((int) value);
        long[] all = {r.isSmall() ? 1 : 0, r.above.signum(), r.above.abs().bitLength(), r.below.bitLength(),
            r.below.equals(BigInteger.ONE) ? 1 : 0};
        return all[(int) what];
    }

    private Object part(long value, long part) {
        if (!isValue(value) || part < 0 || part > 1) {
            return ARGUMENT;
        }
        BigInteger side = part == 0 ? values.get((int) value).above : values.get((int) value).below;
        return side.bitLength() > 63 ? ARITHMETIC : (Object) side.longValue();
    }

    private Object limb(long value, long part, long k) {
        if (!isValue(value) || part < 0 || part > 1) {
            return ARGUMENT;
        }
        BigInteger side = part == 0 ? values.get((int) value).above.abs() : values.get((int) value).below;
        if (k < 0 || k > (side.bitLength() + 31) / 32 - 1) {
            return INDEX;
        }
        return (long) side.shiftRight(32 * (int) k).intValue();
    }

    private Object exact(long op, BigInteger a, BigInteger b) {
        if (op < 0 || op > 9) {
            return ARGUMENT;
        }
        if (op >= 3 && op <= 6 && b.signum() == 0) {
            return ARITHMETIC;
        }
        BigInteger made;
        switch ((int) op) {
            case 0: made = a.add(b); break;
            case 1: made = a.subtract(b); break;
            case 2: made = a.multiply(b); break;
            case 3: made = a.divide(b); break;
            case 4: made = a.remainder(b); break;
            case 5: made = new Ratio(a, b).floor().above; break;
            case 6: made = a.subtract(b.multiply(new Ratio(a, b).floor().above)); break;
            case 7: made = a.negate(); break;
            case 8: made = a; break;
            default: made = a.abs(); break;
        }
        return made.bitLength() > (op == 8 ? 31 : 63) ? ARITHMETIC : (Object) made.longValue();
    }

    private Object row(long n) {
        if (n < 1 || n > 10) {
            return BAD;
        }
        if (rows.size() == 20) {
            return FULL;
        }
        Ratio[] places = new Ratio[(int) n];
        java.util.Arrays.fill(places, Ratio.ZERO);
        rows.add(places);
        return (long) rows.size() - 1;
    }

    private Object put(long row, long k, long value) {
        if (!isPlace(row, k) || !isValue(value)) {
            return BAD;
        }
        rows.get((int) row)[(int) k] = values.get((int) value);
        return 1L;
    }

    private Object take(long row, long k) {
        if (!isPlace(row, k)) {
            return BAD;
        }
        return isFull() ? FULL : keep(rows.get((int) row)[(int) k]);
    }

    private Object dot(long row, long other) {
        if (!likeRows(row, other)) {
            return BAD;
        }
        if (isFull()) {
            return FULL;
        }
        Ratio[] a = rows.get((int) row), b = rows.get((int) other);
        Ratio s = Ratio.ZERO;
        for (int k = 0; k < a.length; k++) {
            s = s.plus(a[k].by(b[k]).told()).told();
        }
        return keep(s);
    }

    private Object scale(long row, long value) {
        if (!isRow(row) || !isValue(value)) {
            return BAD;
        }
        Ratio factor = values.get((int) value);
        if (factor.above.signum() == 0) {
            return STATE;
        }
        Ratio[] places = rows.get((int) row).clone();
        for (int k = 0; k < places.length; k++) {
            places[k] = places[k].by(factor).told();
        }
        rows.set((int) row, places);
        return 1L;
    }

    private Object eliminate(long row, long by, long k) {
        if (!likeRows(row, by) || row == by || !isPlace(row, k)) {
            return BAD;
        }
        Ratio[] places = rows.get((int) row).clone(), others = rows.get((int) by);
        if (others[(int) k].above.signum() == 0) {
            return STATE;
        }
        if (places[(int) k].above.signum() == 0) {
            return 0L;
        }
        Ratio f = places[(int) k].dividedBy(others[(int) k]).told();
        for (int i = 0; i < places.length; i++) {
            places[i] = places[i].plus(f.by(others[i]).told().negated()).told();
        }
        rows.set((int) row, places);
        return 1L;
    }

    private Object primitive(long row) {
        if (!isRow(row)) {
            return BAD;
        }
        Ratio[] places = rows.get((int) row).clone();
        if (lead(places) == NONE) {
            return 0L;
        }
        Ratio g = new Ratio(places[0].above.abs(), places[0].below);
        for (int k = 1; k < places.length; k++) {
            g = g.common(places[k]).told();
        }
        for (int k = 0; k < places.length; k++) {
            places[k] = places[k].dividedBy(g).told();
        }
        rows.set((int) row, places);
        return 1L;
    }

    private static long lead(Ratio[] places) {
        for (int k = 0; k < places.length; k++) {
            if (places[k].above.signum() != 0) {
                return k;
            }
        }
        return NONE;
    }

    private Object alike(long row, long other, long what) {
        if (!likeRows(row, other) || what < 0 || what > 1) {
            return BAD;
        }
        Ratio[] a = rows.get((int) row), b = rows.get((int) other);
        Ratio factor = new Ratio(BigInteger.ONE, BigInteger.ONE);
        long at = lead(b);
        if (what == 1 && at != NONE) {
            factor = a[(int) at].dividedBy(b[(int) at]);
        }
        boolean all = factor.above.signum() != 0;
        for (int k = 0; k < a.length; k++) {
            all &= a[k].same(b[k].by(factor));
        }
        return all ? 1L : 0L;
    }

    private Object decimal(long value, long n, long end) {
        if (!isValue(value) || n < 0 || n > 30 || end < 0 || end > 1) {
            return BAD;
        }
        RoundingMode mode = end == 0 ? RoundingMode.FLOOR : RoundingMode.CEILING;
        written = multiple(values.get((int) value), (int) n, mode).toPlainString();
        return (long) written.length();
    }

    private Object count(long what) {
        long small = 0, length = 0;
        for (Ratio r : values) {
            small += r.isSmall() ? 1 : 0;
            length = Math.max(length, r.greaterLength());
        }
        long[] all = {values.size(), rows.size(), small, wideCalls, length};
        return what < 0 || what > 4 ? BAD : all[(int) what];
    }

    private Object clear() {
        long before = values.size();
        values.clear();
        rows.clear();
        written = "";
        wideCalls = 0;
        return before;
    }
}
