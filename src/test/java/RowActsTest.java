import java.math.BigInteger;

/**
 * "An act on a ROW works from PLACE 0 on, each NUMBER that is told on the way being worked fully; if one is WIDE (the
 * first one, in the order told), the ROW is left as it was": in each PLACE, just inside the limit and just outside.
 */
public final class RowActsTest extends Bench {
    private static final int N = MOST_PLACES;
    private static final BigInteger ONE = BigInteger.ONE;

    public static void main(String[] args) {
        for (int k = 0; k < N; k++) {
            scaleInPlace(k);
            productOfDotInPlace(k);
            sumOfDotInPlace(k);
            factorOfEliminateInPlace(k);
            productOfEliminateInPlace(k);
            differenceOfEliminateInPlace(k);
            measureOfPrimitiveInPlace(k);
            quotientOfPrimitiveInPlace(k);
            rowOf0But(k);
        }
        dotWorksFromPlace0On();
        rowsOf0();
        rowsOfOnePlace();
        rowsOfTheGreatestLength();
        fullValuesDoNotMatter();
        alikeOfAnyLength();
        check.end();
    }

    private interface Act {
        int on(PlanFractions x);
    }

    private static int copyOf(PlanFractions x, int row) {
        int copy = x.row(N);
        for (int k = 0; k < N; k++) {
            x.put(copy, k, x.take(row, k));
        }
        return copy;
    }

    /** The act is WIDE and counts once, and the ROW is left as it was. */
    private static void wide(String told, PlanFractions x, int row, Act act) {
        int copy = copyOf(x, row);
        int values = x.count(0), calls = x.count(3);
        check.due(told, act.on(x), WIDE);
        check.due(told + ": counts once", x.count(3), calls + 1);
        check.due(told + ": VALUES", x.count(0), values);
        check.due(told + ": the ROW as it was", x.alike(row, copy, 0), 1);
        for (int k = 0; k < N; k++) {
            check.due(told + ": PLACE " + k + " as it was", x.order(x.take(row, k), x.take(copy, k)), 0);
        }
    }

    private static int next(int k) {
        return (k + 1) % N;
    }

    // ---- "Each PLACE of a ROW becomes itself times a VALUE"

    private static void scaleInPlace(int k) {
        PlanFractions x = new PlanFractions();
        int minus2 = x.value(-2, 1), half = x.value(1, 2);
        int row = rowBut(x, N, half, k, big(x, two(511).subtract(ONE)));
        check.due("scale to 2^512 - 2 in PLACE " + k, x.scale(row, minus2), 1);
        is("it is that", x, x.take(row, k), TOP.subtract(ONE).negate() + "/1");
        is("the next PLACE is scaled too", x, x.take(row, next(k)), "-1/1");

        PlanFractions y = new PlanFractions();
        int two = y.value(2, 1), by2 = y.value(1, 2), power = big(y, two(511));
        int above = rowBut(y, N, two, k, power), below = rowBut(y, N, two, k, y.over(y.value(1, 1), power));
        wide("scale to 2^512 in PLACE " + k, y, above, z -> z.scale(above, two));
        wide("scale to a BELOW of 2^512 in PLACE " + k, y, below, z -> z.scale(below, by2));
    }

    // ---- "for each PLACE the product of both NUMBERS there, then s and that"

    private static void productOfDotInPlace(int k) {
        PlanFractions x = new PlanFractions();
        int one = x.value(1, 1), two = x.value(2, 1), zero = x.value(0, 1);
        int by = rowBut(x, N, one, k, two), inside = rowBut(x, N, zero, k, big(x, two(510)));
        is("dot with 2^511 in PLACE " + k, x, x.dot(inside, by), two(511) + "/1");
        int outside = rowBut(x, N, zero, k, big(x, two(511)));
        wide("dot with 2^512 in PLACE " + k, x, outside, y -> y.dot(outside, by));
        wide("the other way round", x, outside, y -> y.dot(by, outside));
        // The whole sum would be 0, but each product is worked fully.
        x.put(outside, next(k), big(x, two(511)));
        x.put(by, next(k), x.value(-2, 1));
        wide("dot of 2^512 and -2^512", x, outside, y -> y.dot(outside, by));
    }

    /** In PLACE 0 the sum is the product alone: s is 0 at first. */
    private static void sumOfDotInPlace(int k) {
        PlanFractions x = new PlanFractions();
        int one = x.value(1, 1), top = big(x, TOP);
        int ones = rowBut(x, N, one, k, one), row = rowBut(x, N, x.value(0, 1), 0, top);
        is("dot that is TOP", x, x.dot(row, ones), TOP + "/1");
        if (k > 0) {
            x.put(row, k, x.value(-1, 1));
            is("dot that is TOP - 1", x, x.dot(row, ones), TOP.subtract(ONE) + "/1");
            x.put(row, k, one);
            wide("dot with a sum of 2^512 in PLACE " + k, x, row, y -> y.dot(row, ones));
        }
    }

    /** The whole sum is TOP each time; whether a sum on the way is longer depends on the order of the PLACES. */
    private static void dotWorksFromPlace0On() {
        PlanFractions x = new PlanFractions();
        int one = x.value(1, 1), minus = x.value(-1, 1), top = big(x, TOP);
        int ones = rowOfValues(x, one, one, one);
        check.due("TOP + 1 - 1", x.dot(rowOfValues(x, top, one, minus), ones), WIDE);
        is("TOP - 1 + 1", x, x.dot(rowOfValues(x, top, minus, one), ones), TOP + "/1");
        check.due("1 + TOP - 1", x.dot(rowOfValues(x, one, top, minus), ones), WIDE);
        is("-1 + TOP + 1", x, x.dot(rowOfValues(x, minus, top, one), ones), TOP + "/1");
        is("1 - 1 + TOP", x, x.dot(rowOfValues(x, one, minus, top), ones), TOP + "/1");
        check.due("two were WIDE", x.count(3), 2);
    }

    // ---- "f is PLACE k of the first over that of the other"

    private static void factorOfEliminateInPlace(int k) {
        PlanFractions x = new PlanFractions();
        int one = x.value(1, 1), half = x.value(1, 2), zero = x.value(0, 1), top = big(x, TOP);
        int by = rowBut(x, N, zero, k, half), long1 = rowBut(x, N, one, k, top);
        wide("eliminate with an f of 2 TOP in PLACE " + k, x, long1, y -> y.eliminate(long1, by, k));
        int byTop = rowBut(x, N, zero, k, top), short1 = rowBut(x, N, one, k, half);
        wide("eliminate with an f of 1/(2 TOP)", x, short1, y -> y.eliminate(short1, byTop, k));
        x.put(by, k, one);
        check.due("eliminate with an f of TOP", x.eliminate(long1, by, k), 1);
        is("PLACE k is 0", x, x.take(long1, k), "0/1");
        is("all else stays, for the other is 0 there", x, x.take(long1, next(k)), "1/1");
    }

    // ---- "for each PLACE f times the other's"

    private static void productOfEliminateInPlace(int i) {
        PlanFractions x = new PlanFractions();
        int k = next(i);
        int one = x.value(1, 1), two = x.value(2, 1), top = big(x, TOP);
        int row = rowBut(x, N, two, i, top), by = rowBut(x, N, one, i, big(x, two(511)));
        // TOP less 2^512 would be -1, but the product is worked fully.
        wide("eliminate with a product of 2^512 in PLACE " + i, x, row, y -> y.eliminate(row, by, k));
        x.put(by, i, big(x, two(511).subtract(ONE)));
        check.due("eliminate with a product of 2^512 - 2", x.eliminate(row, by, k), 1);
        is("PLACE " + i, x, x.take(row, i), "1/1");
        is("PLACE k", x, x.take(row, k), "0/1");
    }

    // ---- "then the first's less that"

    private static void differenceOfEliminateInPlace(int i) {
        PlanFractions x = new PlanFractions();
        int k = next(i);
        int one = x.value(1, 1), top = big(x, TOP);
        int row = rowBut(x, N, one, i, top), by = rowBut(x, N, one, i, x.value(-1, 1));
        wide("eliminate with a difference of 2^512 in PLACE " + i, x, row, y -> y.eliminate(row, by, k));
        x.put(row, i, x.less(top, one));
        check.due("eliminate with a difference of TOP", x.eliminate(row, by, k), 1);
        is("PLACE " + i, x, x.take(row, i), TOP + "/1");
        is("PLACE k", x, x.take(row, k), "0/1");
        is("the other is as it was", x, x.take(by, i), "-1/1");
    }

    // ---- "for each further PLACE the MEASURE of g and it"

    private static void measureOfPrimitiveInPlace(int i) {
        PlanFractions x = new PlanFractions();
        int top = big(x, TOP), tiny = x.over(x.value(-1, 1), top);
        int row = rowBut(x, N, x.value(0, 1), i, tiny);
        x.put(row, next(i), x.value(1, 2));
        wide("primitive with a MEASURE of 1/(2 TOP), PLACE " + i, x, row, y -> y.primitive(row));
        x.put(row, next(i), x.value(1, 3));
        check.due("primitive with a MEASURE of 1/TOP", x.primitive(row), 1);
        is("PLACE " + i, x, x.take(row, i), "-1/1");
        is("the next PLACE", x, x.take(row, next(i)), TOP.divide(BigInteger.valueOf(3)) + "/1");
    }

    // ---- "then each PLACE over g"

    private static void quotientOfPrimitiveInPlace(int i) {
        PlanFractions x = new PlanFractions();
        int top = big(x, TOP), tiny = x.over(x.value(1, 1), top);
        int row = rowBut(x, N, x.value(0, 1), i, x.value(-2, 1));
        x.put(row, next(i), tiny);
        wide("primitive with -2 TOP in PLACE " + i, x, row, y -> y.primitive(row));
        x.put(row, i, x.value(-1, 1));
        check.due("primitive with -TOP", x.primitive(row), 1);
        is("PLACE " + i, x, x.take(row, i), TOP.negate() + "/1");
        is("the next PLACE", x, x.take(row, next(i)), "1/1");
    }

    // ---- ROWS at their own limits

    /** One PLACE that is not 0, the others all 0. */
    private static void rowOf0But(int k) {
        PlanFractions x = new PlanFractions();
        int a = x.value(-6, 5), zero = x.value(0, 1), three = x.value(3, 1);
        int row = rowBut(x, N, zero, k, a), other = rowBut(x, N, zero, k, three), zeros = x.row(N);
        check.due("lead", x.lead(row), k);
        is("dot", x, x.dot(row, other), "-18/5");
        check.due("in proportion", x.alike(row, other, 1), 1);
        check.due("not alike", x.alike(row, other, 0), 0);
        check.due("not in proportion to 0s", x.alike(row, zeros, 1), 0);
        check.due("0s are not in proportion to it", x.alike(zeros, row, 1), 0);
        check.due("0s are not alike to it", x.alike(zeros, row, 0), 0);
        check.due("not in proportion: another PLACE", x.alike(row, rowBut(x, N, zero, next(k), three), 1), 0);
        check.due("primitive", x.primitive(row), 1);
        is("primitive keeps the sign", x, x.take(row, k), "-1/1");
        check.due("eliminate it", x.eliminate(row, other, k), 1);
        check.due("all are 0 then", x.lead(row), NONE);
        check.due("eliminate it again", x.eliminate(row, other, k), 0);
    }

    private static void rowsOf0() {
        PlanFractions x = new PlanFractions();
        int two = x.value(2, 1), zero = x.value(0, 1);
        int zeros = x.row(3), more = x.row(3), row = rowOf(x, 1, 2, 0, 1, 3, 1);
        check.due("lead", x.lead(zeros), NONE);
        is("dot", x, x.dot(zeros, more), "0/1");
        is("dot with itself", x, x.dot(zeros, zeros), "0/1");
        is("dot with another", x, x.dot(zeros, row), "0/1");
        check.due("scale", x.scale(zeros, two), 1);
        check.due("scale by 0", x.scale(zeros, zero), STATE);
        check.due("primitive", x.primitive(zeros), 0);
        check.due("eliminate in it", x.eliminate(zeros, row, 0), 0);
        check.due("eliminate by it", x.eliminate(row, zeros, 0), STATE);
        check.due("eliminate by it, 0 there too", x.eliminate(row, zeros, 1), STATE);
        check.due("eliminate of two", x.eliminate(zeros, more, 2), STATE);
        check.due("alike", x.alike(zeros, more, 0), 1);
        check.due("in proportion", x.alike(zeros, more, 1), 1);
        check.due("still 0s", places(x, zeros, 3), "0/1 0/1 0/1");
        check.due("as it was", places(x, row, 3), "1/2 0/1 3/1");
        check.due("no WIDE call", x.count(3), 0);
    }

    private static void rowsOfOnePlace() {
        PlanFractions x = new PlanFractions();
        int row = rowOf(x, -7, 3), other = rowOf(x, 2, 1), zeros = x.row(1);
        is("dot", x, x.dot(row, other), "-14/3");
        check.due("in proportion", x.alike(row, other, 1), 1);
        check.due("in proportion to 0", x.alike(row, zeros, 1), 0);
        check.due("eliminate by 0", x.eliminate(row, zeros, 0), STATE);
        check.due("eliminate in 0", x.eliminate(zeros, row, 0), 0);
        check.due("primitive", x.primitive(row), 1);
        is("it is -1", x, x.take(row, 0), "-1/1");
        check.due("eliminate", x.eliminate(row, other, 0), 1);
        is("it is 0", x, x.take(row, 0), "0/1");
        check.due("primitive of 0", x.primitive(row), 0);
    }

    /** Both parts have 512 bits in every PLACE. */
    private static void rowsOfTheGreatestLength() {
        PlanFractions x = new PlanFractions();
        int longest = number(x, ratio(TOP, TOP.subtract(ONE))), minus = x.value(-1, 1);
        int row = rowBut(x, N, longest, 0, longest), other = rowBut(x, N, longest, 0, longest);
        check.due("scale by -1", x.scale(row, minus), 1);
        is("its last PLACE", x, x.take(row, N - 1), TOP.negate() + "/" + TOP.subtract(ONE));
        check.due("in proportion", x.alike(row, other, 1), 1);
        check.due("dot", x.dot(row, other), WIDE);
        check.due("primitive", x.primitive(row), 1);
        is("its first PLACE", x, x.take(row, 0), "-1/1");
        check.due("eliminate", x.eliminate(other, row, N - 1), 1);
        check.due("all are 0", x.lead(other), NONE);
        check.due("one WIDE call", x.count(3), 1);
    }

    /** Acts on ROWS need no VALUE. */
    private static void fullValuesDoNotMatter() {
        PlanFractions x = new PlanFractions();
        int a = x.value(2, 3), b = x.value(-4, 1);
        int row = rowOfValues(x, a, b), other = rowOfValues(x, b, a), due = rowOfValues(x, a, b);
        fill(x);
        check.due("a ROW", x.row(2), 3);
        check.due("put", x.put(row, 0, b), 1);
        check.due("put back", x.put(row, 0, a), 1);
        check.due("scale", x.scale(row, b), 1);
        check.due("lead", x.lead(row), 0);
        check.due("in proportion", x.alike(row, due, 1), 1);
        check.due("primitive", x.primitive(row), 1);
        check.due("eliminate", x.eliminate(row, other, 1), 1);
        check.due("primitive of 0s", x.primitive(3), 0);
        check.due("VALUES", x.count(0), MOST_VALUES);
    }

    // ---- "one is the other times a NUMBER that is not 0 (1; of any LENGTH)"

    private static void alikeOfAnyLength() {
        PlanFractions x = new PlanFractions();
        int one = x.value(1, 1), half = x.value(1, 2), top = big(x, TOP), tiny = x.over(one, top);
        int minus = x.less(x.value(0, 1), top);
        int tops = rowOfValues(x, top, top), halves = rowOfValues(x, half, half), tinies = rowOfValues(x, tiny, tiny);
        int[] alike = {halves, tinies, tops, rowOfValues(x, minus, minus)};
        for (int row : alike) {
            check.due("tops and ROW " + row, x.alike(tops, row, 1), 1);
            check.due("ROW " + row + " and tops", x.alike(row, tops, 1), 1);
        }
        int low = x.less(top, one);
        int[] unlike = {rowOfValues(x, half, x.value(1, 3)), rowOfValues(x, tiny, x.value(0, 1)),
            rowOfValues(x, top, low), rowOfValues(x, top, minus), rowOfValues(x, tiny, x.over(one, low))};
        for (int row : unlike) {
            check.due("tops and ROW " + row, x.alike(tops, row, 1), 0);
            check.due("ROW " + row + " and tops", x.alike(row, tops, 1), 0);
        }
        check.due("alike alone asks for the same NUMBERS", x.alike(tops, halves, 0), 0);
        check.due("no WIDE call", x.count(3), 0);
    }
}
