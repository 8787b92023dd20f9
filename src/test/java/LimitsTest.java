import java.math.BigInteger;

/** The sentences under "Terms" that name a limit, one method each: just inside it, and just outside. */
public final class LimitsTest extends Bench {
    private static final BigInteger ONE = BigInteger.ONE;
    /** Two numbers whose product with each other, or with 2^256, has just 512 bits or just 513. */
    private static final BigInteger MIDDLE = two(256), UNDER = MIDDLE.subtract(ONE), ABOVE = MIDDLE.add(ONE);
    private static final String[] ON_TWO = {"add", "less", "times", "over", "rest", "measure"};
    private static final int MOST_CALLS = 512;

    public static void main(String[] args) {
        zeroIsOverOne();
        lengthIsOfTheSize();
        lengthEndsAt512();
        sumsAtTheLimit();
        productsAtTheLimit();
        quotientsAtTheLimit();
        restsAtTheLimit();
        measuresAtTheLimit();
        leastTermsCount();
        wholeOnesAreNeverWide();
        smallIsTwoLongs();
        valuesEndAt240();
        valuesComeInTurn();
        valuesNeverChange();
        rowsEndAt20();
        placesAre1To10();
        placesAre0AtFirst();
        callsEndAt512();
        check.end();
    }

    private static int onTwo(PlanFractions x, String call, int a, int b) {
        switch (call) {
            case "add": return x.add(a, b);
            case "less": return x.less(a, b);
            case "times": return x.times(a, b);
            case "over": return x.over(a, b);
            case "rest": return x.rest(a, b);
            default: return x.measure(a, b);
        }
    }

    /** A call makes a NUMBER whose longer part has this LENGTH; beyond 512 it must be WIDE. */
    private static void makes(String call, Model.Ratio a, Model.Ratio b, int length) {
        String told = call + " of " + a + " and " + b;
        Model.Ratio due = Model.made(call, a, b);
        check.due(told + " has a LENGTH", due.greaterLength(), length);
        PlanFractions x = new PlanFractions();
        int first = number(x, a), second = number(x, b), before = x.count(0);
        int got = onTwo(x, call, first, second);
        if (length > MOST_LENGTH) {
            check.due(told, got, WIDE);
            check.due(told + ": no VALUE", x.count(0), before);
            check.due(told + ": a WIDE call", x.count(3), 1);
        } else {
            check.due(told + " has the next number", got, before);
            is(told, x, got, due.toString());
            check.due(told + ": no WIDE call", x.count(3), 0);
        }
    }

    /** The same with both signs turned: the size alone counts. */
    private static void makesBoth(String call, Model.Ratio a, Model.Ratio b, int length) {
        makes(call, a, b, length);
        makes(call, a.negated(), b.negated(), length);
    }

    // "0 is 0 over 1"
    private static void zeroIsOverOne() {
        PlanFractions x = new PlanFractions();
        int a = x.value(-3, 4), b = x.value(3, 4), zero = x.value(0, LEAST);
        int row = rowOfValues(x, a), other = rowOfValues(x, b);
        int[] zeros = {zero, x.value(0, 7), x.add(a, b), x.less(a, a), x.times(zero, a), x.times(a, zero),
            x.over(zero, a), x.rest(b, a), x.rest(zero, a), x.measure(zero, zero), x.whole(b, 0), x.whole(a, 1),
            x.whole(x.value(1, 2), 2), x.whole(a, 3), x.take(x.row(1), 0), x.dot(row, x.row(1)),
            x.eliminate(row, other, 0) == 1 ? x.take(row, 0) : -1};
        for (int i = 0; i < zeros.length; i++) {
            String told = "0 made by way " + i;
            check.due(told + ": sign", x.of(zeros[i], 1), 0);
            check.due(told + ": LENGTH of ABOVE", x.of(zeros[i], 2), 0);
            check.due(told + ": LENGTH of BELOW", x.of(zeros[i], 3), 1);
            check.due(told + ": ABOVE", x.part(zeros[i], 0), 0);
            check.due(told + ": BELOW", x.part(zeros[i], 1), 1);
            check.due(told + ": a whole number", x.of(zeros[i], 4), 1);
        }
    }

    // "The LENGTH of a whole number is how many bits its size has (0 of 0)"
    private static void lengthIsOfTheSize() {
        for (int power = 0; power < MOST_LENGTH; power++) {
            PlanFractions x = new PlanFractions();
            int number = big(x, two(power).negate());
            check.due("LENGTH of -2^" + power, x.of(number, 2), power + 1);
            int less = x.add(number, x.value(1, 1));
            check.due("LENGTH of 1 - 2^" + power, x.of(less, 2), power);
            int under = x.over(x.value(-1, 1), number);
            check.due("LENGTH of BELOW 2^" + power, x.of(under, 3), power + 1);
        }
    }

    // "both have a LENGTH of 512 at most": a NUMBER that has it in both is like any other one
    private static void lengthEndsAt512() {
        PlanFractions x = new PlanFractions();
        int a = number(x, ratio(TOP, TOP.subtract(ONE)));
        check.due("ABOVE has 512 bits", x.of(a, 2), MOST_LENGTH);
        check.due("BELOW has 512 bits", x.of(a, 3), MOST_LENGTH);
        check.due("its 16th limb", x.limb(a, 0, 15), -1);
        check.due("its 16th limb", x.limb(a, 1, 15), -1);
        check.due("order to itself", x.order(a, a), 0);
        check.due("order to 1", x.order(a, x.value(1, 1)), 1);
        is("less itself", x, x.less(a, a), "0/1");
        is("over itself", x, x.over(a, a), "1/1");
        is("rest by itself", x, x.rest(a, a), "0/1");
        is("FLOOR", x, x.whole(a, 0), "1/1");
        is("MEASURE with itself", x, x.measure(a, a), TOP + "/" + TOP.subtract(ONE));
        check.due("decimal", x.decimal(a, 30, 1), 32);
        check.due("the greatest LENGTH", x.count(4), MOST_LENGTH);
        check.due("nothing WIDE", x.count(3), 0);
    }

    // "what would be longer, in least terms, is WIDE": add and less
    private static void sumsAtTheLimit() {
        Model.Ratio one = ratio(1, 1), half = ratio(1, 2), top = ratio(TOP), tiny = ratio(ONE, TOP);
        makesBoth("add", ratio(TOP.subtract(ONE)), one, 512);
        makesBoth("add", top, one, 513);
        makesBoth("add", ratio(two(511)), ratio(two(511).subtract(ONE)), 512);
        makesBoth("add", ratio(two(511)), ratio(two(511)), 513);
        makesBoth("add", top, top, 513);
        makesBoth("add", ratio(two(511)), ratio(-1, 2), 512);
        makesBoth("add", ratio(two(511)), half, 513);
        makesBoth("add", ratio(ONE, MIDDLE), ratio(ONE, UNDER), 512);
        makesBoth("add", ratio(ONE, MIDDLE), ratio(ONE, ABOVE), 513);
        makesBoth("add", tiny, ratio(1, 3), 512);
        makesBoth("add", tiny, half, 513);
        makesBoth("less", ratio(TOP.subtract(ONE)), ratio(-1, 1), 512);
        makesBoth("less", top, ratio(-1, 1), 513);
        makesBoth("less", top, top.negated(), 513);
        makesBoth("less", top, one, 512);
        makesBoth("less", ratio(two(511)), half, 512);
        makesBoth("less", top, half, 513);
        makesBoth("less", ratio(ONE, MIDDLE), ratio(ONE, UNDER), 512);
        makesBoth("less", ratio(ONE, MIDDLE), ratio(ONE, ABOVE), 513);
    }

    // the same: times
    private static void productsAtTheLimit() {
        Model.Ratio top = ratio(TOP), middle = ratio(MIDDLE);
        makesBoth("times", ratio(UNDER), ratio(ABOVE), 512);
        makesBoth("times", ratio(two(255)), middle, 512);
        makesBoth("times", middle, middle, 513);
        makesBoth("times", ratio(ABOVE), ratio(ABOVE), 513);
        makesBoth("times", top, ratio(-1, 1), 512);
        makesBoth("times", top, ratio(2, 1), 513);
        makesBoth("times", top, top, 1024);
        makesBoth("times", ratio(ONE, UNDER), ratio(ONE, ABOVE), 512);
        makesBoth("times", ratio(ONE, MIDDLE), ratio(ONE, MIDDLE), 513);
        makesBoth("times", ratio(ONE, TOP), ratio(1, 2), 513);
        makesBoth("times", ratio(ONE, TOP), ratio(ONE, TOP), 1024);
    }

    // the same: over
    private static void quotientsAtTheLimit() {
        Model.Ratio top = ratio(TOP);
        makesBoth("over", ratio(UNDER), ratio(ONE, ABOVE), 512);
        makesBoth("over", ratio(MIDDLE), ratio(ONE, MIDDLE), 513);
        makesBoth("over", ratio(ONE, UNDER), ratio(ABOVE), 512);
        makesBoth("over", ratio(ONE, MIDDLE), ratio(MIDDLE), 513);
        makesBoth("over", ratio(1, 1), top, 512);
        makesBoth("over", ratio(1, 2), top, 513);
        makesBoth("over", top, ratio(1, 1), 512);
        makesBoth("over", top, ratio(1, 2), 513);
        makesBoth("over", top, ratio(ONE, TOP), 1024);
        makesBoth("over", ratio(ONE, TOP), top, 1024);
    }

    // the same: rest, where "a over b may be longer than told"
    private static void restsAtTheLimit() {
        Model.Ratio top = ratio(TOP), tiny = ratio(ONE, TOP);
        makesBoth("rest", ratio(1, 1), top.negated(), 512);
        makesBoth("rest", ratio(1, 2), top.negated(), 513);
        makesBoth("rest", ratio(1, 2), ratio(two(511)).negated(), 512);
        makesBoth("rest", ratio(1, 2), top, 2);
        makesBoth("rest", ratio(ONE, MIDDLE), ratio(ONE.negate(), UNDER), 512);
        makesBoth("rest", ratio(ONE, MIDDLE), ratio(ONE.negate(), ABOVE), 513);
        makesBoth("rest", top, tiny, 1);
        makesBoth("rest", top, tiny.negated(), 1);
        makesBoth("rest", top, ratio(BigInteger.TWO, TOP), 512);
        makesBoth("rest", top, ratio(BigInteger.TWO.negate(), TOP), 512);
        makesBoth("rest", ratio(two(511)), ratio(BigInteger.valueOf(3), TOP.subtract(ONE)), 512);
        makesBoth("rest", tiny, top, 512);
        makesBoth("rest", tiny, top.negated(), 1024);
    }

    // the same: measure
    private static void measuresAtTheLimit() {
        makesBoth("measure", ratio(TOP), ratio(TOP), 512);
        makesBoth("measure", ratio(ONE, MIDDLE), ratio(ONE, UNDER), 512);
        makesBoth("measure", ratio(ONE, MIDDLE), ratio(ONE, ABOVE), 513);
        makesBoth("measure", ratio(ONE, TOP), ratio(1, 3), 512);
        makesBoth("measure", ratio(ONE, TOP), ratio(1, 2), 513);
        makesBoth("measure", ratio(ONE, TOP), ratio(0, 1), 512);
        makesBoth("measure", ratio(0, 1), ratio(ONE, TOP), 512);
    }

    // "longer, in least terms": what is long on the way alone is not WIDE
    private static void leastTermsCount() {
        Model.Ratio half = ratio(TOP, BigInteger.TWO), tiny = ratio(ONE, two(511)), top = ratio(TOP);
        makesBoth("add", half, half, 512);
        makesBoth("add", tiny, tiny, 511);
        makesBoth("add", half, half.negated(), 1);
        makesBoth("less", ratio(BigInteger.valueOf(3), two(511)), tiny, 511);
        makesBoth("less", ratio(TOP, TOP.subtract(ONE)), ratio(1, 1), 512);
        makesBoth("times", half, ratio(2, 1), 512);
        makesBoth("times", ratio(TOP, two(511)), ratio(two(511), TOP), 1);
        makesBoth("times", top, ratio(ONE, TOP), 1);
        makesBoth("over", ratio(TOP, two(511)), ratio(TOP, two(510)), 2);
        makesBoth("over", top, top, 1);
        makesBoth("rest", ratio(TOP, two(511)), tiny, 1);
        makesBoth("rest", ratio(BigInteger.valueOf(5), two(511)), ratio(BigInteger.valueOf(3), two(511)), 511);
        makesBoth("measure", ratio(TOP, two(511)), tiny, 512);
    }

    // whole is told to answer BAD and FULL alone: no whole number beside a NUMBER is longer than that
    private static void wholeOnesAreNeverWide() {
        Model.Ratio[] ratios = {ratio(TOP), ratio(TOP, BigInteger.TWO), ratio(TOP, BigInteger.valueOf(7)),
            ratio(ONE, TOP), ratio(TOP, TOP.subtract(ONE)), ratio(TOP.subtract(ONE), TOP)};
        String[][] due = {
            {TOP.toString(), TOP.toString(), TOP.toString(), TOP.toString()},
            {two(511).subtract(ONE).toString(), two(511).toString(), two(511).toString(), two(511).subtract(ONE).toString()},
            null, {"0", "1", "0", "0"}, {"1", "2", "1", "1"}, {"0", "1", "1", "0"}};
        for (int i = 0; i < ratios.length; i++) {
            for (int how = 0; how <= 3; how++) {
                PlanFractions x = new PlanFractions();
                int made = x.whole(number(x, ratios[i]), how);
                check.due("whole of a long one, " + how, made >= 0 && x.of(made, 4) == 1, true);
                if (due[i] != null) {
                    is("whole of a long one, " + how, x, made, due[i][how] + "/1");
                }
                int opposite = x.whole(number(x, ratios[i].negated()), how < 2 ? 1 - how : how);
                check.due("whole of one below 0", x.of(x.add(made, opposite), 1), 0);
            }
        }
    }

    // "SMALL is one whose ABOVE and BELOW both are longs"
    private static void smallIsTwoLongs() {
        PlanFractions x = new PlanFractions();
        BigInteger beyond = two(63);
        int[] small = {x.value(0, 1), x.value(GREATEST, 1), x.value(LEAST, 1), x.value(1, GREATEST),
            x.value(LEAST, GREATEST), x.value(GREATEST, GREATEST - 1), x.value(LEAST, LEAST), x.value(2, LEAST)};
        int smallOfHelp = x.count(2) - small.length;
        for (int value : small) {
            check.due(Check.text(x, value) + " is SMALL", x.of(value, 0), 1);
        }
        check.due("all of them count", smallOfHelp, 0);
        int one = x.value(1, 1), least = x.value(LEAST, 1), greatest = x.value(GREATEST, 1);
        int before = x.count(2);
        int[] not = {x.value(LEAST, -1), x.value(1, LEAST), x.value(-1, LEAST), x.value(GREATEST, LEAST),
            x.add(greatest, one), x.less(least, one), x.over(one, least), x.times(least, greatest)};
        for (int value : not) {
            check.due(Check.text(x, value) + " is not SMALL", x.of(value, 0), 0);
        }
        check.due("none of them counts", x.count(2), before);
        int back = x.less(x.value(0, 1), not[0]);
        is("2^63 turned", x, back, beyond.negate() + "/1");
        check.due("2^63 turned is SMALL", x.of(back, 0), 1);
        check.due("and counts", x.count(2), before + 2);
    }

    private interface Maker {
        int make(PlanFractions x, int row);
    }

    private static final Maker[] MAKERS = {
        (x, row) -> x.value(1, 2), (x, row) -> x.add(0, 0), (x, row) -> x.less(0, 0), (x, row) -> x.times(0, 0),
        (x, row) -> x.over(0, 0), (x, row) -> x.rest(0, 0), (x, row) -> x.measure(0, 0), (x, row) -> x.whole(0, 0),
        (x, row) -> x.take(row, 0), (x, row) -> x.dot(row, row)
    };

    // "VALUES 0, 1, .. (240 at most)": each call that makes one makes the last one, and none more
    private static void valuesEndAt240() {
        for (int i = 0; i < MAKERS.length; i++) {
            PlanFractions x = new PlanFractions();
            x.value(3, 2);
            int row = rowOfValues(x, 0);
            for (int k = 1; k < MOST_VALUES - 1; k++) {
                x.value(k, 1);
            }
            String told = "maker " + i;
            check.due(told + ": VALUES before", x.count(0), MOST_VALUES - 1);
            check.due(told + " has no VALUE 239 before", x.of(MOST_VALUES - 1, 1), BAD);
            check.due(told + " makes the 240th", MAKERS[i].make(x, row), MOST_VALUES - 1);
            check.due(told + " made it", x.of(MOST_VALUES - 1, 1) >= 0, true);
            check.due(told + " makes no 241st", MAKERS[i].make(x, row), FULL);
            check.due(told + ": VALUES", x.count(0), MOST_VALUES);
            check.due(told + " has no VALUE 240", x.of(MOST_VALUES, 1), BAD);
            check.due(told + " leaves VALUE 238", x.part(MOST_VALUES - 2, 0), MOST_VALUES - 2);
        }
    }

    // "VALUES 0, 1, .. are NUMBERS, as they come": what is refused or throws takes no number
    private static void valuesComeInTurn() {
        PlanFractions x = new PlanFractions();
        int row = x.row(1);
        check.due("a first one", x.value(3, 2), 0);
        for (int i = 1; i < MAKERS.length; i++) {
            check.due("maker " + i + " in turn", MAKERS[i].make(x, row), i);
            Check.answer(() -> x.value(1, 0));
            x.add(0, -1);
            Check.answer(() -> x.over(0, 2));
        }
        check.due("alike NUMBERS are two VALUES", x.value(6, 4), MAKERS.length);
        check.due("they are alike", x.order(0, MAKERS.length), 0);
    }

    // "they never change"
    private static void valuesNeverChange() {
        PlanFractions x = new PlanFractions();
        int a = x.value(-3, 2), b = x.value(5, 7);
        int row = rowOfValues(x, a, b), other = rowOfValues(x, b, b), same = rowOfValues(x, a, b);
        int taken = x.take(row, 0);
        for (String call : ON_TWO) {
            onTwo(x, call, a, b);
        }
        x.scale(row, b);
        x.eliminate(row, other, 0);
        x.primitive(row);
        x.put(row, 0, b);
        x.decimal(a, 3, 0);
        is("what was put", x, a, "-3/2");
        is("what was put and scaled by", x, b, "5/7");
        is("what was taken", x, taken, "-3/2");
        check.due("another ROW of the same VALUES", places(x, same, 2), "-3/2 5/7");
        check.due("the ROW that eliminates", places(x, other, 2), "5/7 5/7");
    }

    // "ROWS 0, 1, .. (20 at most)"
    private static void rowsEndAt20() {
        PlanFractions x = new PlanFractions();
        int one = x.value(1, 1);
        for (int i = 0; i < MOST_ROWS; i++) {
            check.due("no ROW " + i + " yet", x.lead(i), BAD);
            x.row(11);
            check.due("ROW " + i, x.row(MOST_PLACES), i);
            check.due("all its PLACES are 0", x.lead(i), NONE);
            check.due("its last PLACE", x.put(i, MOST_PLACES - 1, one), 1);
        }
        check.due("no 21st ROW", x.row(1), FULL);
        check.due("no ROW 20", x.lead(MOST_ROWS), BAD);
        check.due("ROWS", x.count(1), MOST_ROWS);
        check.due("ROW 19 as it was", x.lead(MOST_ROWS - 1), MOST_PLACES - 1);
        PlanFractions y = new PlanFractions();
        fill(y);
        check.due("a ROW beside full VALUES", y.row(1), 0);
    }

    // "have 1 to 10 PLACES"
    private static void placesAre1To10() {
        PlanFractions x = new PlanFractions();
        int one = x.value(1, 1);
        for (int n : new int[] {0, 11, -1, 12, 20, Integer.MIN_VALUE, Integer.MAX_VALUE}) {
            check.due("a ROW of " + n, x.row(n), BAD);
        }
        check.due("no ROWS", x.count(1), 0);
        for (int n = 1; n <= MOST_PLACES; n++) {
            int row = x.row(n);
            check.due("a ROW of " + n, row, n - 1);
            check.due("put in its last PLACE", x.put(row, n - 1, one), 1);
            check.due("put behind it", x.put(row, n, one), BAD);
            check.due("put ahead", x.put(row, -1, one), BAD);
            check.due("take behind it", x.take(row, n), BAD);
            check.due("take ahead", x.take(row, -1), BAD);
            check.due("its last PLACE alone is not 0", x.lead(row), n - 1);
        }
    }

    // "each a NUMBER, 0 at first": also where a ROW was before clear()
    private static void placesAre0AtFirst() {
        PlanFractions x = new PlanFractions();
        for (int turn = 0; turn < 3; turn++) {
            int row = x.row(MOST_PLACES);
            check.due("all 0 in turn " + turn, x.lead(row), NONE);
            is("PLACE 0", x, x.take(row, 0), "0/1");
            is("PLACE 9", x, x.take(row, MOST_PLACES - 1), "0/1");
            int a = x.value(turn + 1, 1);
            for (int k = 0; k < MOST_PLACES; k++) {
                x.put(row, k, a);
            }
            x.clear();
        }
    }

    // "An object is used for at most 512 calls": the last one of them still answers as told
    private static void callsEndAt512() {
        PlanFractions x = new PlanFractions();
        int top = big(x, TOP);
        int made = x.count(0);
        for (int i = 0; i < 400; i++) {
            check.due("a WIDE call", x.times(top, top), WIDE);
        }
        check.due("WIDE calls", x.count(3), 400);
        check.due("VALUES", x.count(0), made);
        PlanFractions y = new PlanFractions();
        int calls = 0;
        for (; calls + 23 <= MOST_CALLS; calls += 23) {
            for (int i = 0; i < MOST_ROWS; i++) {
                check.due("ROW " + i + " after " + calls + " calls", y.row(1 + i % MOST_PLACES), i);
            }
            check.due("no ROW more after " + calls + " calls", y.row(1), FULL);
            check.due("a VALUE after " + calls + " calls", y.value(1, 2), 0);
            check.due("clear after " + calls + " calls", y.clear(), 1);
        }
        for (; calls < MOST_CALLS; calls++) {
            check.due("call " + calls, y.clear(), 0);
        }
    }
}
