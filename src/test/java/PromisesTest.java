import java.math.BigInteger;

/** One method for each promise of the document: ordinary inputs, the edges, and what is refused. */
public final class PromisesTest extends Bench {
    public static void main(String[] args) {
        newObject();
        value();
        add();
        less();
        times();
        over();
        rest();
        measure();
        whole();
        order();
        of();
        part();
        limb();
        exact();
        row();
        put();
        take();
        dot();
        scale();
        eliminate();
        primitive();
        lead();
        alike();
        decimal();
        letter();
        count();
        clear();
        refusalsInOrder();
        check.end();
    }

    // ---- helpers

    private interface Two {
        int answer(PlanFractions x, int a, int b);
    }

    /** What BAD and FULL are for a call on two VALUES. */
    private static void refusedByTwo(String name, Two call) {
        PlanFractions x = new PlanFractions();
        check.due(name + " without VALUES", call.answer(x, 0, 0), BAD);
        x.value(3, 2);
        for (int wrong : new int[] {-1, 1, Integer.MIN_VALUE, Integer.MAX_VALUE}) {
            check.due(name + " of a wrong a", call.answer(x, wrong, 0), BAD);
            check.due(name + " of a wrong b", call.answer(x, 0, wrong), BAD);
        }
        check.due(name + " refused: VALUES", x.count(0), 1);
        fill(x);
        check.due(name + " beyond 240", call.answer(x, 0, 1), FULL);
        check.due(name + " beyond 240, BAD first", call.answer(x, 0, 240), BAD);
        check.due(name + " beyond 240: VALUES", x.count(0), 240);
        is(name + " leaves VALUES", x, 0, "3/2");
    }

    // ---- the promises

    private static void newObject() {
        PlanFractions x = new PlanFractions();
        for (int what = 0; what <= 4; what++) {
            check.due("count(" + what + ") of a new one", x.count(what), 0);
        }
        check.due("of a new one", x.of(0, 0), BAD);
        check.due("lead of a new one", x.lead(0), BAD);
        check.due("letter of a new one", x.letter(0), NONE);
        check.due("clear of a new one", x.clear(), 0);
        PlanFractions y = new PlanFractions();
        y.value(1, 2);
        check.due("objects share nothing", x.count(0), 0);
    }

    private static void value() {
        PlanFractions x = new PlanFractions();
        check.due("the first VALUE", x.value(6, -4), 0);
        check.due("the second VALUE", x.value(-6, -4), 1);
        is("6/-4", x, 0, "-3/2");
        is("-6/-4", x, 1, "3/2");
        is("0/-5", x, x.value(0, -5), "0/1");
        is("0/least", x, x.value(0, LEAST), "0/1");
        is("least/-1", x, x.value(LEAST, -1), "9223372036854775808/1");
        is("least/1", x, x.value(LEAST, 1), "-9223372036854775808/1");
        is("1/least", x, x.value(1, LEAST), "-1/9223372036854775808");
        is("least/least", x, x.value(LEAST, LEAST), "1/1");
        is("least/greatest", x, x.value(LEAST, GREATEST), "-9223372036854775808/9223372036854775807");
        is("greatest/least", x, x.value(GREATEST, LEAST), "-9223372036854775807/9223372036854775808");
        is("greatest/7", x, x.value(GREATEST, 7), "1317624576693539401/1");
        int before = x.count(0);
        check.throwsJust("value(7, 0)", ArithmeticException.class, () -> x.value(7, 0));
        check.throwsJust("value(0, 0)", ArithmeticException.class, () -> x.value(0, 0));
        check.due("what throws changes nothing", x.count(0), before);
        fill(x);
        check.due("the 241st", x.value(1, 2), FULL);
        check.throwsJust("value(1, 0) when FULL", ArithmeticException.class, () -> x.value(1, 0));
        check.due("VALUES at most", x.count(0), 240);
    }

    private static void add() {
        PlanFractions x = new PlanFractions();
        int third = x.value(1, 3), sixth = x.value(1, 6), minus = x.value(-1, 2), zero = x.value(0, 1);
        check.due("add's number", x.add(third, sixth), 4);
        is("1/3 + 1/6", x, 4, "1/2");
        is("1/2 - 1/2", x, x.add(4, minus), "0/1");
        is("1/3 - 1/2", x, x.add(third, minus), "-1/6");
        is("0 + -1/2", x, x.add(zero, minus), "-1/2");
        is("-1/2 + 0", x, x.add(minus, zero), "-1/2");
        is("-1/2 twice", x, x.add(minus, minus), "-1/1");
        is("0 + 0", x, x.add(zero, zero), "0/1");
        int most = x.value(GREATEST, 1);
        is("greatest twice", x, x.add(most, most), "18446744073709551614/1");

        PlanFractions y = new PlanFractions();
        int one = y.value(1, 1), top = big(y, TOP), bottom = big(y, TOP.negate());
        check.due("LENGTH 512", y.of(top, 2), 512);
        int before = y.count(0);
        check.due("2^512", y.add(top, one), WIDE);
        check.due("-2^512", y.add(bottom, y.value(-1, 1)), WIDE);
        check.due("WIDE is no VALUE", y.count(0), before + 1);
        is("TOP less TOP", y, y.add(top, bottom), "0/1");
        // 1/(2^300) + 1/(3^150) has a BELOW of 300 + 238 bits.
        PlanFractions z = new PlanFractions();
        int unit = z.value(1, 1);
        int a = z.over(unit, big(z, two(300))), b = z.over(unit, big(z, BigInteger.valueOf(3).pow(150)));
        check.due("a BELOW too long", z.add(a, b), WIDE);
        // On the way both are longer than 512 bits, but not in least terms.
        PlanFractions v = new PlanFractions();
        int c = v.over(v.value(1, 1), big(v, two(500)));
        int d = v.over(v.value(3, 1), big(v, two(500)));
        is("1/2^500 + 3/2^500", v, v.add(c, d), "1/" + two(498));
        refusedByTwo("add", PlanFractions::add);
    }

    private static void less() {
        PlanFractions x = new PlanFractions();
        int half = x.value(1, 2), third = x.value(1, 3), zero = x.value(0, 1), least = x.value(LEAST, 1);
        is("1/2 - 1/3", x, x.less(half, third), "1/6");
        is("1/3 - 1/2", x, x.less(third, half), "-1/6");
        is("1/2 - 1/2", x, x.less(half, half), "0/1");
        is("0 - 1/2", x, x.less(zero, half), "-1/2");
        is("1/2 - 0", x, x.less(half, zero), "1/2");
        is("0 - least", x, x.less(zero, least), "9223372036854775808/1");
        is("least - 1/2", x, x.less(least, half), "-18446744073709551617/2");
        PlanFractions y = new PlanFractions();
        int one = y.value(1, 1), bottom = big(y, TOP.negate());
        check.due("below -TOP", y.less(bottom, one), WIDE);
        check.due("one WIDE call", y.count(3), 1);
        refusedByTwo("less", PlanFractions::less);
    }

    private static void times() {
        PlanFractions x = new PlanFractions();
        int a = x.value(-2, 3), b = x.value(9, 4), zero = x.value(0, 1), least = x.value(LEAST, 1);
        is("-2/3 9/4", x, x.times(a, b), "-3/2");
        is("-2/3 -2/3", x, x.times(a, a), "4/9");
        is("0 9/4", x, x.times(zero, b), "0/1");
        is("-2/3 0", x, x.times(a, zero), "0/1");
        is("least squared", x, x.times(least, least), two(126).toString() + "/1");
        PlanFractions y = new PlanFractions();
        int long256 = big(y, two(256)), long255 = big(y, two(255));
        int half = y.over(long255, long256);
        is("2^511", y, y.times(long255, long256), two(511) + "/1");
        check.due("2^512", y.times(long256, long256), WIDE);
        int top = big(y, TOP);
        check.due("TOP 2^255", y.times(top, long255), WIDE);
        int inverse = y.over(y.value(1, 1), top);
        is("TOP/1 1/TOP", y, y.times(top, inverse), "1/1");
        check.due("1/TOP 1/2", y.times(inverse, half), WIDE);
        refusedByTwo("times", PlanFractions::times);
    }

    private static void over() {
        PlanFractions x = new PlanFractions();
        int a = x.value(-2, 3), b = x.value(4, 9), zero = x.value(0, 1);
        is("-2/3 over 4/9", x, x.over(a, b), "-3/2");
        is("4/9 over -2/3", x, x.over(b, a), "-2/3");
        is("0 over -2/3", x, x.over(zero, a), "0/1");
        is("-2/3 over itself", x, x.over(a, a), "1/1");
        int before = x.count(0);
        check.throwsJust("4/9 over 0", ArithmeticException.class, () -> x.over(b, zero));
        check.throwsJust("0 over 0", ArithmeticException.class, () -> x.over(zero, zero));
        check.due("a BAD over 0", x.over(99, zero), BAD);
        check.due("what throws changes nothing", x.count(0), before);
        fill(x);
        check.throwsJust("over 0 when FULL", ArithmeticException.class, () -> x.over(b, zero));
        PlanFractions y = new PlanFractions();
        int top = big(y, TOP), tiny = y.over(y.value(1, 1), top);
        is("1/TOP", y, tiny, "1/" + TOP);
        check.due("TOP over 1/TOP", y.over(top, tiny), WIDE);
        check.due("1/TOP over 2", y.over(tiny, y.value(2, 1)), WIDE);
        refusedByTwo("over", PlanFractions::over);
    }

    private static void rest() {
        PlanFractions x = new PlanFractions();
        int a = x.value(7, 2), minusA = x.value(-7, 2), b = x.value(2, 3), minusB = x.value(-2, 3), zero = x.value(0, 1);
        is("7/2 by 2/3", x, x.rest(a, b), "1/6");
        is("-7/2 by 2/3", x, x.rest(minusA, b), "1/2");
        is("7/2 by -2/3", x, x.rest(a, minusB), "-1/2");
        is("-7/2 by -2/3", x, x.rest(minusA, minusB), "-1/6");
        is("2/3 by 7/2", x, x.rest(b, a), "2/3");
        is("2/3 by -7/2", x, x.rest(b, minusA), "-17/6");
        is("0 by 2/3", x, x.rest(zero, b), "0/1");
        is("4/1 by -2/3", x, x.rest(x.value(4, 1), minusB), "0/1");
        is("5/4 by 1/2", x, x.rest(x.value(5, 4), x.value(1, 2)), "1/4");
        is("3/2 by 5/6", x, x.rest(x.value(3, 2), x.value(5, 6)), "2/3");
        check.throwsJust("by 0", ArithmeticException.class, () -> x.rest(a, zero));
        check.due("a BAD by 0", x.rest(-1, zero), BAD);
        fill(x);
        check.throwsJust("by 0 when FULL", ArithmeticException.class, () -> x.rest(a, zero));
        // The quotient has 1024 bits, what is left has none.
        PlanFractions y = new PlanFractions();
        int top = big(y, TOP), tiny = y.over(y.value(1, 1), top);
        check.due("the quotient is WIDE", y.over(top, tiny), WIDE);
        is("TOP by 1/TOP", y, y.rest(top, tiny), "0/1");
        int near = y.over(y.value(-1, 1), y.less(top, y.value(1, 1)));
        check.due("1/TOP by -1/(TOP-1)", y.rest(tiny, near), WIDE);
        is("1/TOP by TOP", y, y.rest(tiny, top), "1/" + TOP);
        check.due("1/TOP by -TOP", y.rest(tiny, big(y, TOP.negate())), WIDE);
        refusedByTwo("rest", PlanFractions::rest);
    }

    private static void measure() {
        PlanFractions x = new PlanFractions();
        int a = x.value(-3, 2), b = x.value(9, 4), zero = x.value(0, 1);
        is("-3/2 and 9/4", x, x.measure(a, b), "3/4");
        is("1/2 and 1/3", x, x.measure(x.value(1, 2), x.value(1, 3)), "1/6");
        is("12 and 18", x, x.measure(x.value(12, 1), x.value(-18, 1)), "6/1");
        is("0 and -3/2", x, x.measure(zero, a), "3/2");
        is("-3/2 and 0", x, x.measure(a, zero), "3/2");
        is("0 and 0", x, x.measure(zero, zero), "0/1");
        PlanFractions y = new PlanFractions();
        int top = big(y, TOP), tiny = y.over(y.value(1, 1), top);
        is("TOP and 1/TOP", y, y.measure(top, tiny), "1/" + TOP);
        check.due("1/TOP and 1/2", y.measure(tiny, y.value(1, 2)), WIDE);
        check.due("one WIDE call", y.count(3), 1);
        refusedByTwo("measure", PlanFractions::measure);
    }

    private static void whole() {
        String[][] due = {
            {"7", "2", "3", "4", "4", "3"}, {"-7", "2", "-4", "-3", "-4", "-3"}, {"5", "2", "2", "3", "2", "2"},
            {"-5", "2", "-3", "-2", "-2", "-2"}, {"1", "2", "0", "1", "0", "0"}, {"-1", "2", "-1", "0", "0", "0"},
            {"1", "3", "0", "1", "0", "0"}, {"-1", "3", "-1", "0", "0", "0"}, {"2", "3", "0", "1", "1", "0"},
            {"-2", "3", "-1", "0", "-1", "0"}, {"6", "1", "6", "6", "6", "6"}, {"-6", "1", "-6", "-6", "-6", "-6"},
            {"0", "1", "0", "0", "0", "0"}, {"9223372036854775807", "2", "4611686018427387903", "4611686018427387904",
                "4611686018427387904", "4611686018427387903"}
        };
        for (String[] line : due) {
            PlanFractions x = new PlanFractions();
            int a = x.value(Long.parseLong(line[0]), Long.parseLong(line[1]));
            for (int how = 0; how <= 3; how++) {
                int made = x.whole(a, how);
                check.due("whole's number", made, how + 1);
                is("whole(" + line[0] + "/" + line[1] + ", " + how + ")", x, made, line[2 + how] + "/1");
            }
        }
        PlanFractions x = new PlanFractions();
        check.due("whole of no VALUE", x.whole(0, 0), BAD);
        x.value(1, 2);
        for (int how : new int[] {-1, 4, Integer.MIN_VALUE, Integer.MAX_VALUE}) {
            check.due("whole with a wrong how", x.whole(0, how), BAD);
        }
        check.due("whole of a wrong a", x.whole(1, 0), BAD);
        check.due("whole of a wrong a", x.whole(-1, 0), BAD);
        is("the greatest LENGTH", x, x.whole(big(x, TOP), 1), TOP + "/1");
        int half = x.over(big(x, TOP), x.value(2, 1));
        is("half of TOP, up", x, x.whole(half, 1), two(511) + "/1");
        is("half of TOP, nearest", x, x.whole(half, 2), two(511) + "/1");
        fill(x);
        check.due("whole beyond 240", x.whole(0, 0), FULL);
        check.due("whole beyond 240, BAD", x.whole(0, 4), BAD);
    }

    private static void order() {
        PlanFractions x = new PlanFractions();
        int third = x.value(1, 3), half = x.value(1, 2), minus = x.value(-1, 2), zero = x.value(0, 1);
        check.due("1/3, 1/2", x.order(third, half), -1);
        check.due("1/2, 1/3", x.order(half, third), 1);
        check.due("1/2, 1/2", x.order(half, x.value(2, 4)), 0);
        check.due("-1/2, 1/3", x.order(minus, third), -1);
        check.due("-1/2, -1/3", x.order(minus, x.value(-1, 3)), -1);
        check.due("-1/3, -1/2", x.order(x.value(-1, 3), minus), 1);
        check.due("0, -1/2", x.order(zero, minus), 1);
        check.due("0, 1/2", x.order(zero, half), -1);
        check.due("0, 0", x.order(zero, zero), 0);
        check.due("greatest/least", x.order(x.value(LEAST, GREATEST), x.value(-1, 1)), -1);
        int top = big(x, TOP), almost = x.less(top, x.value(1, 1));
        check.due("TOP, TOP - 1", x.order(top, almost), 1);
        int count = x.count(0);
        int a = x.over(almost, top);
        int b = x.over(x.less(almost, x.value(1, 1)), almost);
        check.due("products of 1024 bits", x.order(a, b), 1);
        check.due("products of 1024 bits", x.order(b, a), -1);
        check.due("VALUES", x.count(0), count + 4);
        check.due("a wrong a", x.order(-1, 0), BAD);
        check.due("a wrong b", x.order(0, x.count(0)), BAD);
        fill(x);
        check.due("order needs no room", x.order(third, half), -1);
    }

    private static void of() {
        PlanFractions x = new PlanFractions();
        int a = x.value(-6, 4), zero = x.value(0, 9), least = x.value(LEAST, 1), wide = x.value(LEAST, -1);
        int below = x.value(1, LEAST), whole = x.value(10, 5), most = x.value(GREATEST, 1), both = x.value(LEAST, GREATEST);
        int[][] due = {
            {a, 1, -1, 2, 2, 0}, {zero, 1, 0, 0, 1, 1}, {least, 1, -1, 64, 1, 1}, {wide, 0, 1, 64, 1, 1},
            {below, 0, -1, 1, 64, 0}, {whole, 1, 1, 2, 1, 1}, {most, 1, 1, 63, 1, 1}, {both, 1, -1, 64, 63, 0}
        };
        for (int[] line : due) {
            for (int what = 0; what <= 4; what++) {
                check.due("of(" + Check.text(x, line[0]) + ", " + what + ")", x.of(line[0], what), line[1 + what]);
            }
        }
        int lessOne = x.less(least, x.value(1, 1));
        check.due("below the least long", x.of(lessOne, 0), 0);
        check.due("its LENGTH", x.of(lessOne, 2), 64);
        for (int power = 1; power <= 511; power += 10) {
            PlanFractions y = new PlanFractions();
            int number = big(y, two(power));
            check.due("LENGTH of 2^" + power, y.of(number, 2), power + 1);
            check.due("LENGTH of 2^" + power + " - 1", y.of(y.less(number, y.value(1, 1)), 2), power);
        }
        check.due("no such VALUE", x.of(x.count(0), 0), BAD);
        check.due("no such VALUE", x.of(-1, 0), BAD);
        check.due("no such what", x.of(0, -1), BAD);
        check.due("no such what", x.of(0, 5), BAD);
    }

    private static void part() {
        PlanFractions x = new PlanFractions();
        int a = x.value(-6, 4), least = x.value(LEAST, 1), wide = x.value(LEAST, -1), below = x.value(3, LEAST);
        check.due("ABOVE", x.part(a, 0), -3);
        check.due("BELOW", x.part(a, 1), 2);
        check.due("the least long", x.part(least, 0), LEAST);
        check.due("BELOW of 0", x.part(x.value(0, 7), 1), 1);
        check.due("ABOVE of 0", x.part(x.value(0, 7), 0), 0);
        check.due("the greatest long", x.part(x.value(GREATEST, 5), 0), GREATEST);
        check.due("the greatest BELOW", x.part(x.value(-5, GREATEST), 1), GREATEST);
        check.throwsJust("2^63", ArithmeticException.class, () -> x.part(wide, 0));
        check.due("its BELOW", x.part(wide, 1), 1);
        check.throwsJust("a BELOW of 2^63", ArithmeticException.class, () -> x.part(below, 1));
        check.due("its ABOVE", x.part(below, 0), -3);
        int lessOne = x.less(least, x.value(1, 1));
        check.throwsJust("-2^63 - 1", ArithmeticException.class, () -> x.part(lessOne, 0));
        int top = big(x, TOP);
        check.throwsJust("TOP", ArithmeticException.class, () -> x.part(top, 0));
        check.throwsJust("no such VALUE", IllegalArgumentException.class, () -> x.part(-1, 0));
        check.throwsJust("no such VALUE", IllegalArgumentException.class, () -> x.part(x.count(0), 1));
        for (int part : NOT_0_OR_1) {
            check.throwsJust("no such part", IllegalArgumentException.class, () -> x.part(a, part));
            check.throwsJust("no such part, of a wide one", IllegalArgumentException.class, () -> x.part(top, part));
        }
    }

    private static void limb() {
        PlanFractions x = new PlanFractions();
        int a = x.value(LEAST, 3), zero = x.value(0, 1);
        check.due("lowest", x.limb(a, 0, 0), 0);
        check.due("highest", x.limb(a, 0, 1), Integer.MIN_VALUE);
        check.due("BELOW", x.limb(a, 1, 0), 3);
        check.throwsJust("k 2", ArrayIndexOutOfBoundsException.class, () -> x.limb(a, 0, 2));
        check.throwsJust("k -1", ArrayIndexOutOfBoundsException.class, () -> x.limb(a, 0, -1));
        check.throwsJust("k 1 of BELOW", ArrayIndexOutOfBoundsException.class, () -> x.limb(a, 1, 1));
        check.throwsJust("k 0 of 0", ArrayIndexOutOfBoundsException.class, () -> x.limb(zero, 0, 0));
        check.due("BELOW of 0", x.limb(zero, 1, 0), 1);
        check.throwsJust("a far k", ArrayIndexOutOfBoundsException.class, () -> x.limb(a, 0, Integer.MAX_VALUE));
        check.throwsJust("a far k", ArrayIndexOutOfBoundsException.class, () -> x.limb(a, 0, Integer.MIN_VALUE));
        check.throwsJust("no such VALUE", IllegalArgumentException.class, () -> x.limb(2, 0, 0));
        check.throwsJust("no such VALUE", IllegalArgumentException.class, () -> x.limb(-1, 0, 99));
        for (int part : NOT_0_OR_1) {
            check.throwsJust("no such part", IllegalArgumentException.class, () -> x.limb(a, part, 0));
            check.throwsJust("no such part, k too", IllegalArgumentException.class, () -> x.limb(a, part, 9));
        }
        BigInteger number = BigInteger.ZERO;
        for (int k = 15; k >= 0; k--) {
            number = number.shiftLeft(32).or(BigInteger.valueOf(0x81234567L * (k + 1) & 0xFFFFFFFFL));
        }
        int long512 = big(x, number.negate());
        for (int k = 0; k < 16; k++) {
            check.due("limb " + k, x.limb(long512, 0, k), (int) (0x81234567L * (k + 1)));
        }
        int inverse = x.over(x.value(1, 1), long512);
        for (int k = 0; k < 16; k++) {
            check.due("limb " + k + " of BELOW", x.limb(inverse, 1, k), (int) (0x81234567L * (k + 1)));
        }
        int limbs = (x.of(long512, 2) + 31) / 32;
        check.throwsJust("k " + limbs, ArrayIndexOutOfBoundsException.class, () -> x.limb(long512, 0, limbs));
    }

    private static void exact() {
        PlanFractions x = new PlanFractions();
        long[] longs = {0, 1, -1, 2, -2, 3, -3, 7, -7, 10, GREATEST, GREATEST - 1, LEAST, LEAST + 1, 1L << 31, -(1L << 31),
            (1L << 31) - 1, -(1L << 31) - 1, 1L << 32, 1L << 62, -(1L << 62), 3037000499L, 3037000500L, -3037000500L};
        for (int op = 0; op <= 9; op++) {
            for (long a : longs) {
                PlanFractions y = new PlanFractions();
                for (long b : longs) {
                    exactCase(y, op, a, b);
                }
            }
        }
        for (int op : new int[] {-1, 10, Integer.MIN_VALUE, Integer.MAX_VALUE}) {
            check.throwsJust("no such op", IllegalArgumentException.class, () -> x.exact(op, 1, 0));
        }
    }

    private static void exactCase(PlanFractions x, int op, long a, long b) {
        String call = "exact(" + op + ", " + a + ", " + b + ")";
        BigInteger due = exactly(op, BigInteger.valueOf(a), BigInteger.valueOf(b));
        if (due == null || due.bitLength() > (op == 8 ? 31 : 63)) {
            check.throwsJust(call, ArithmeticException.class, () -> x.exact(op, a, b));
        } else {
            check.due(call, x.exact(op, a, b), due.longValue());
        }
    }

    private static BigInteger exactly(int op, BigInteger a, BigInteger b) {
        if (op >= 3 && op <= 6 && b.signum() == 0) {
            return null;
        }
        switch (op) {
            case 0: return a.add(b);
            case 1: return a.subtract(b);
            case 2: return a.multiply(b);
            case 3: return a.divide(b);
            case 4: return a.remainder(b);
            case 5: return floor(a, b);
            case 6: return a.subtract(b.multiply(floor(a, b)));
            case 7: return a.negate();
            case 8: return a;
            default: return a.abs();
        }
    }

    private static BigInteger floor(BigInteger a, BigInteger b) {
        BigInteger[] both = a.divideAndRemainder(b);
        return both[1].signum() * b.signum() < 0 ? both[0].subtract(BigInteger.ONE) : both[0];
    }

    private static void row() {
        PlanFractions x = new PlanFractions();
        for (int n : new int[] {0, 11, -1, Integer.MIN_VALUE, Integer.MAX_VALUE}) {
            check.due("row(" + n + ")", x.row(n), BAD);
        }
        check.due("the first ROW", x.row(1), 0);
        check.due("the second ROW", x.row(10), 1);
        check.due("its PLACES are 0", x.lead(1), NONE);
        is("PLACE 9", x, x.take(1, 9), "0/1");
        check.due("PLACE 10", x.take(1, 10), BAD);
        for (int i = 2; i < 20; i++) {
            check.due("ROW " + i, x.row(1 + i % 10), i);
        }
        check.due("the 21st ROW", x.row(1), FULL);
        check.due("the 21st ROW, BAD first", x.row(0), BAD);
        check.due("ROWS", x.count(1), 20);
    }

    private static void put() {
        PlanFractions x = new PlanFractions();
        int a = x.value(1, 2), b = x.value(-3, 4);
        int row = x.row(2), one = x.row(1);
        check.due("put", x.put(row, 1, a), 1);
        is("PLACE 1", x, x.take(row, 1), "1/2");
        is("PLACE 0", x, x.take(row, 0), "0/1");
        check.due("put again", x.put(row, 1, b), 1);
        is("PLACE 1 again", x, x.take(row, 1), "-3/4");
        is("the VALUE stays", x, a, "1/2");
        check.due("put in a ROW of one", x.put(one, 0, a), 1);
        check.due("no such PLACE", x.put(one, 1, a), BAD);
        check.due("no such PLACE", x.put(row, 2, a), BAD);
        check.due("no such PLACE", x.put(row, -1, a), BAD);
        check.due("no such ROW", x.put(2, 0, a), BAD);
        check.due("no such ROW", x.put(-1, 0, a), BAD);
        check.due("no such VALUE", x.put(row, 0, x.count(0)), BAD);
        check.due("no such VALUE", x.put(row, 0, -1), BAD);
        check.due("the ROW as it was", places(x, row, 2), "0/1 -3/4");
        check.due("scaled", x.scale(row, a), 1);
        is("scale leaves the VALUE", x, b, "-3/4");
    }

    private static void take() {
        PlanFractions x = new PlanFractions();
        int row = rowOf(x, 1, 2, -5, 3);
        check.due("take's number", x.take(row, 1), 2);
        is("take", x, 2, "-5/3");
        x.put(row, 1, 0);
        is("what was taken stays", x, 2, "-5/3");
        check.due("no such ROW", x.take(1, 0), BAD);
        check.due("no such ROW", x.take(-1, 0), BAD);
        check.due("no such PLACE", x.take(row, 2), BAD);
        check.due("no such PLACE", x.take(row, -1), BAD);
        fill(x);
        check.due("take beyond 240", x.take(row, 0), FULL);
        check.due("take beyond 240, BAD first", x.take(row, 2), BAD);
    }

    private static void dot() {
        PlanFractions x = new PlanFractions();
        int a = rowOf(x, 1, 2, -2, 3, 5, 1), b = rowOf(x, 4, 1, 3, 4, -1, 10), one = rowOf(x, 7, 3);
        check.due("dot's number", x.dot(a, b), 7);
        is("1/2 4 - 2/3 3/4 - 5/10", x, 7, "1/1");
        is("dot of one ROW", x, x.dot(a, a), "925/36");
        is("dot of one PLACE", x, x.dot(one, one), "49/9");
        is("dot of 0s", x, x.dot(x.row(3), a), "0/1");
        check.due("unlike lengths", x.dot(a, one), BAD);
        check.due("no such ROW", x.dot(a, 4), BAD);
        check.due("no such ROW", x.dot(-1, a), BAD);
        check.due("PLACES stay", places(x, a, 3), "1/2 -2/3 5/1");

        // The sum of all would be 0, but a product, or a sum on the way, is WIDE.
        PlanFractions y = new PlanFractions();
        int top = big(y, TOP), plus = y.value(1, 1), minus = y.value(-1, 1), two = y.value(2, 1);
        int ones = rowOfValues(y, plus, plus, minus, minus), tops = rowOfValues(y, top, top, top, top);
        check.due("a sum on the way", y.dot(ones, tops), WIDE);
        int around = rowOfValues(y, plus, minus, plus, minus);
        is("in another order", y, y.dot(around, tops), "0/1");
        int twos = rowOfValues(y, two, minus, minus, plus);
        check.due("a product on the way", y.dot(twos, tops), WIDE);
        check.due("WIDE calls", y.count(3), 2);
        fill(y);
        check.due("FULL before WIDE", y.dot(twos, tops), FULL);
        check.due("unlike lengths before FULL", y.dot(twos, y.row(1)), BAD);
        check.due("WIDE calls stay", y.count(3), 2);
    }

    private static void scale() {
        PlanFractions x = new PlanFractions();
        int row = rowOf(x, 1, 2, 0, 1, -4, 3);
        int factor = x.value(-3, 2), zero = x.value(0, 1);
        check.due("scale", x.scale(row, factor), 1);
        check.due("scaled", places(x, row, 3), "-3/4 0/1 2/1");
        check.due("by 0", x.scale(row, zero), STATE);
        check.due("no such ROW", x.scale(1, factor), BAD);
        check.due("no such ROW, by 0", x.scale(-1, zero), BAD);
        check.due("no such VALUE", x.scale(row, -1), BAD);
        check.due("no such VALUE", x.scale(row, x.count(0)), BAD);
        check.due("as it was", places(x, row, 3), "-3/4 0/1 2/1");
        check.due("0s by 0", x.scale(x.row(1), zero), STATE);

        PlanFractions y = new PlanFractions();
        int top = big(y, TOP), two = y.value(2, 1);
        int ten = y.row(10);
        y.put(ten, 0, two);
        y.put(ten, 9, top);
        check.due("the last PLACE is WIDE", y.scale(ten, two), WIDE);
        is("PLACE 0 as it was", y, y.take(ten, 0), "2/1");
        is("PLACE 9 as it was", y, y.take(ten, 9), TOP + "/1");
        check.due("one WIDE call", y.count(3), 1);
        fill(y);
        check.due("scale needs no room", y.scale(ten, y.count(0) - 1), 1);
    }

    private static void eliminate() {
        PlanFractions x = new PlanFractions();
        int a = rowOf(x, 1, 2, 3, 1, -1, 4), by = rowOf(x, -1, 3, 2, 5, 0, 1), one = rowOf(x, 5, 1), other = rowOf(x, 2, 3);
        check.due("eliminate", x.eliminate(a, by, 0), 1);
        check.due("eliminated", places(x, a, 3), "0/1 18/5 -1/4");
        check.due("the other as it was", places(x, by, 3), "-1/3 2/5 0/1");
        check.due("PLACE k is 0", x.eliminate(a, by, 0), 0);
        check.due("k of the other is 0", x.eliminate(a, by, 2), STATE);
        check.due("both are 0", x.eliminate(x.row(3), by, 2), STATE);
        check.due("both are one", x.eliminate(a, a, 0), BAD);
        check.due("both are one, k 0 there", x.eliminate(by, by, 2), BAD);
        check.due("unlike lengths", x.eliminate(a, one, 0), BAD);
        check.due("k", x.eliminate(a, by, 3), BAD);
        check.due("k", x.eliminate(a, by, -1), BAD);
        check.due("no such ROW", x.eliminate(a, 5, 0), BAD);
        check.due("no such ROW", x.eliminate(-1, by, 0), BAD);
        check.due("as it was", places(x, a, 3), "0/1 18/5 -1/4");
        check.due("ROWS of one PLACE", x.eliminate(one, other, 0), 1);
        check.due("one PLACE", places(x, one, 1), "0/1");

        PlanFractions y = new PlanFractions();
        int top = big(y, TOP), tiny = y.over(y.value(1, 1), top), unit = y.value(1, 1);
        int f = rowOfValues(y, unit, top), g = rowOfValues(y, unit, tiny);
        check.due("f is WIDE", y.eliminate(f, g, 1), WIDE);
        int h = rowOfValues(y, unit, unit, unit), i = rowOfValues(y, unit, tiny, top);
        check.due("a later product is WIDE", y.eliminate(h, i, 1), WIDE);
        int j = rowOfValues(y, unit, unit, top), l = rowOfValues(y, unit, y.value(-1, 1), unit);
        check.due("a later difference is WIDE", y.eliminate(j, l, 1), WIDE);
        check.due("as they were", places(y, h, 3) + " " + places(y, j, 3), "1/1 1/1 1/1 1/1 1/1 " + TOP + "/1");
        check.due("three WIDE calls", y.count(3), 3);
        check.due("0 comes before the work", y.eliminate(rowOfValues(y, y.value(0, 1), top), g, 0), 0);
        fill(y);
        check.due("eliminate needs no room", y.eliminate(h, l, 0), 1);
    }

    private static void primitive() {
        PlanFractions x = new PlanFractions();
        int a = rowOf(x, 2, 3, -4, 9, 10, 1);
        check.due("primitive", x.primitive(a), 1);
        check.due("primitive ROW", places(x, a, 3), "3/1 -2/1 45/1");
        check.due("primitive again", x.primitive(a), 1);
        check.due("primitive ROW again", places(x, a, 3), "3/1 -2/1 45/1");
        int b = rowOf(x, 0, 1, -6, 1, 0, 1, 9, 1);
        check.due("0 ahead", x.primitive(b), 1);
        check.due("0 ahead stays", places(x, b, 4), "0/1 -2/1 0/1 3/1");
        int one = rowOf(x, -7, 3), zeros = x.row(10);
        check.due("one PLACE", x.primitive(one), 1);
        check.due("one PLACE is -1", places(x, one, 1), "-1/1");
        check.due("all 0", x.primitive(zeros), 0);
        check.due("all 0 stay", x.lead(zeros), NONE);
        check.due("no such ROW", x.primitive(4), BAD);
        check.due("no such ROW", x.primitive(-1), BAD);

        PlanFractions y = new PlanFractions();
        int top = big(y, TOP), tiny = y.over(y.value(1, 1), top), half = y.value(1, 2);
        int r = rowOfValues(y, tiny, half), s = rowOfValues(y, tiny, top);
        check.due("the MEASURE is WIDE", y.primitive(r), WIDE);
        check.due("a multiple is WIDE", y.primitive(s), WIDE);
        check.due("as it was", places(y, s, 2), "1/" + TOP + " " + TOP + "/1");
        check.due("two WIDE calls", y.count(3), 2);
        fill(y);
        check.due("primitive needs no room", y.primitive(rowOfValues(y, 0)), 1);
    }

    private static void lead() {
        PlanFractions x = new PlanFractions();
        check.due("no ROW", x.lead(0), BAD);
        int row = x.row(10), one = x.row(1);
        int a = x.value(-1, 5);
        check.due("all 0", x.lead(row), NONE);
        for (int k = 9; k >= 0; k--) {
            x.put(row, k, a);
            check.due("lead", x.lead(row), k);
        }
        x.put(row, 0, x.value(0, 1));
        check.due("0 put ahead", x.lead(row), 1);
        check.due("one PLACE", x.lead(one), NONE);
        check.due("no such ROW", x.lead(2), BAD);
        check.due("no such ROW", x.lead(-1), BAD);
    }

    private static void alike() {
        PlanFractions x = new PlanFractions();
        int a = rowOf(x, 1, 2, 0, 1, -3, 4), b = rowOf(x, 2, 4, 0, 5, 3, -4), c = rowOf(x, -1, 1, 0, 1, 3, 2);
        int d = rowOf(x, -1, 1, 1, 1, 3, 2), zeros = x.row(3), one = x.row(1), e = rowOf(x, -1, 1, 0, 1, -3, 2);
        int late = rowOf(x, 0, 1, 0, 1, 3, 2), minusOne = rowOf(x, -9, 4), more = rowOf(x, 1, 2, 0, 1, -4, 5);
        int[][] due = {
            {a, b, 1, 1}, {a, a, 1, 1}, {a, c, 0, 1}, {c, a, 0, 1}, {a, d, 0, 0}, {d, a, 0, 0}, {a, zeros, 0, 0},
            {zeros, a, 0, 0}, {zeros, zeros, 1, 1}, {a, e, 0, 0}, {a, late, 0, 0}, {late, a, 0, 0},
            {one, one, 1, 1}, {one, minusOne, 0, 0}, {minusOne, minusOne, 1, 1}, {a, more, 0, 0}
        };
        for (int[] line : due) {
            check.due("alike " + line[0] + " " + line[1], x.alike(line[0], line[1], 0), line[2]);
            check.due("proportion " + line[0] + " " + line[1], x.alike(line[0], line[1], 1), line[3]);
        }
        check.due("unlike lengths", x.alike(a, one, 0), BAD);
        check.due("unlike lengths", x.alike(one, a, 1), BAD);
        check.due("no such ROW", x.alike(a, x.count(1), 0), BAD);
        check.due("no such ROW", x.alike(-1, a, 1), BAD);
        for (int what : NOT_0_OR_1) {
            check.due("no such what", x.alike(a, a, what), BAD);
        }
        // The NUMBER between both has 1024 bits.
        PlanFractions y = new PlanFractions();
        int top = big(y, TOP), tiny = y.over(y.value(1, 1), top), unit = y.value(1, 1);
        int low = y.less(top, unit);
        int tinyLow = y.over(unit, low), lowRatio = y.over(low, top), highRatio = y.over(top, low);
        int p = rowOfValues(y, top, low), q = rowOfValues(y, tinyLow, tiny), r = rowOfValues(y, tiny, tinyLow);
        check.due("a long NUMBER between", y.alike(p, q, 1), 1);
        check.due("a long NUMBER between", y.alike(q, p, 1), 1);
        check.due("none between", y.alike(p, r, 1), 0);
        check.due("four long factors", y.alike(rowOfValues(y, lowRatio, highRatio), rowOfValues(y, highRatio, lowRatio), 1), 0);
        check.due("four long factors", y.alike(rowOfValues(y, lowRatio, highRatio), rowOfValues(y, lowRatio, highRatio), 1), 1);
        check.due("nothing WIDE", y.count(3), 0);
    }

    private static void decimal() {
        writes(1, 3, 3, 0, "0.333");
        writes(1, 3, 3, 1, "0.334");
        writes(-1, 3, 3, 0, "-0.334");
        writes(-1, 3, 3, 1, "-0.333");
        writes(1, 3, 0, 0, "0");
        writes(1, 3, 0, 1, "1");
        writes(-1, 3, 0, 0, "-1");
        writes(-1, 3, 0, 1, "0");
        writes(-1, 2000, 3, 1, "0.000");
        writes(-1, 2000, 3, 0, "-0.001");
        writes(1, 2000, 3, 0, "0.000");
        writes(1, 2000, 3, 1, "0.001");
        writes(-3, 2, 0, 1, "-1");
        writes(0, 1, 0, 0, "0");
        writes(0, 1, 2, 1, "0.00");
        writes(5, 4, 2, 0, "1.25");
        writes(5, 4, 2, 1, "1.25");
        writes(5, 4, 1, 0, "1.2");
        writes(5, 4, 1, 1, "1.3");
        writes(1999, 1000, 2, 1, "2.00");
        writes(999, 1000, 2, 1, "1.00");
        writes(-999, 1000, 2, 0, "-1.00");
        writes(1000000000, 1, 0, 0, "1000000000");
        writes(1000000000, 1, 1, 1, "1000000000.0");
        writes(100, 1, 30, 0, "100.000000000000000000000000000000");
        writes(1, 3, 30, 1, "0.333333333333333333333333333334");
        writes(-2, 3, 30, 0, "-0.666666666666666666666666666667");
        writes(LEAST, 1, 0, 0, "-9223372036854775808");
        writes(GREATEST, 10, 1, 0, "922337203685477580.7");
        writes(1, GREATEST, 30, 0, "0.000000000000000000108420217248");

        writesBig(TOP, false, 30, 1, TOP + "." + "0".repeat(30));
        writesBig(TOP.negate(), false, 30, 0, "-" + TOP + "." + "0".repeat(30));
        writesBig(TOP.negate(), false, 0, 1, "-" + TOP);
        writesBig(TOP.negate(), true, 30, 0, "-0." + "0".repeat(29) + "1");
        writesBig(TOP.negate(), true, 30, 1, "0." + "0".repeat(30));

        PlanFractions y = new PlanFractions();
        int third = y.value(1, 3);
        y.decimal(third, 2, 0);
        check.due("no such VALUE", y.decimal(-1, 0, 0), BAD);
        check.due("no such VALUE", y.decimal(1, 0, 0), BAD);
        for (int n : new int[] {-1, 31, Integer.MIN_VALUE, Integer.MAX_VALUE}) {
            check.due("n", y.decimal(third, n, 0), BAD);
        }
        for (int end : NOT_0_OR_1) {
            check.due("end", y.decimal(third, 0, end), BAD);
        }
        check.due("as it was WRITTEN", Check.written(y), "0.33");
        fill(y);
        check.due("decimal needs no room", y.decimal(0, 4, 0), 6);
    }

    /** Of a whole number, or of 1 over it. */
    private static void writesBig(BigInteger number, boolean under, int n, int end, String want) {
        PlanFractions x = new PlanFractions();
        int a = big(x, number);
        if (under) {
            a = x.over(x.value(1, 1), a);
        }
        check.due("decimal of " + number, x.decimal(a, n, end), want.length());
        check.due("decimal of " + number, Check.written(x), want);
    }

    private static void writes(long above, long below, int n, int end, String want) {
        PlanFractions x = new PlanFractions();
        String call = "decimal(" + above + "/" + below + ", " + n + ", " + end + ")";
        check.due(call, x.decimal(x.value(above, below), n, end), want.length());
        check.due(call, Check.written(x), want);
    }

    private static void letter() {
        PlanFractions x = new PlanFractions();
        check.due("nothing WRITTEN", x.letter(0), NONE);
        x.value(-5, 4);
        check.due("-1.3", x.decimal(0, 1, 0), 4);
        check.due("-", x.letter(0), '-');
        check.due("1", x.letter(1), '1');
        check.due(".", x.letter(2), '.');
        check.due("3", x.letter(3), '3');
        check.due("behind the end", x.letter(4), NONE);
        check.due("ahead", x.letter(-1), NONE);
        check.due("far", x.letter(Integer.MAX_VALUE), NONE);
        check.due("far", x.letter(Integer.MIN_VALUE), NONE);
        check.due("-2", x.decimal(0, 0, 0), 2);
        check.due("the latest alone", Check.written(x), "-2");
        x.clear();
        check.due("nothing WRITTEN after clear", x.letter(0), NONE);
    }

    private static void count() {
        PlanFractions x = new PlanFractions();
        x.value(5, 3);
        check.due("the greatest LENGTH, of ABOVE", x.count(4), 3);
        x.value(1, 100);
        check.due("the greatest LENGTH, of BELOW", x.count(4), 7);
        x.value(LEAST, -1);
        x.row(3);
        x.row(4);
        check.due("VALUES", x.count(0), 3);
        check.due("ROWS", x.count(1), 2);
        check.due("SMALL VALUES", x.count(2), 2);
        check.due("WIDE calls", x.count(3), 0);
        check.due("the greatest LENGTH", x.count(4), 64);
        check.due("no such what", x.count(5), BAD);
        check.due("no such what", x.count(-1), BAD);
        PlanFractions y = new PlanFractions();
        y.value(0, 1);
        check.due("LENGTH of BELOW of 0", y.count(4), 1);
        int top = big(y, TOP);
        check.due("the greatest of all", y.count(4), 512);
        int row = rowOfValues(y, top, top, top, top, top, top, top, top, top, top);
        check.due("WIDE by a call on VALUES", y.times(top, top), WIDE);
        check.due("WIDE by a call on a ROW", y.scale(row, top), WIDE);
        check.due("WIDE by dot", y.dot(row, row), WIDE);
        check.due("three calls", y.count(3), 3);
        fill(y);
        check.due("FULL is not WIDE", y.times(top, top), FULL);
        check.due("three calls still", y.count(3), 3);
        check.due("SMALL of 240", y.count(2) < 240 && y.count(2) > 200, true);
    }

    private static void clear() {
        PlanFractions x = new PlanFractions();
        int top = big(x, TOP);
        x.times(top, top);
        x.decimal(top, 3, 0);
        int row = rowOfValues(x, top, top);
        int values = x.count(0);
        check.due("clear", x.clear(), values);
        for (int what = 0; what <= 4; what++) {
            check.due("count(" + what + ") after clear", x.count(what), 0);
        }
        check.due("no VALUES", x.of(0, 1), BAD);
        check.due("no ROWS", x.lead(row), BAD);
        check.due("nothing WRITTEN", x.letter(0), NONE);
        check.due("clear again", x.clear(), 0);
        check.due("from 0 again", x.value(1, 2), 0);
        check.due("ROWS from 0 again", x.row(2), 0);
        check.due("its PLACES are 0", places(x, 0, 2), "0/1 0/1");
        fill(x);
        check.due("FULL", x.value(1, 2), FULL);
        check.due("clear of 240", x.clear(), 240);
        check.due("room again", x.value(1, 2), 0);
    }

    private static void refusalsInOrder() {
        PlanFractions x = new PlanFractions();
        int zero = x.value(0, 1), top = big(x, TOP);
        fill(x);
        check.due("BAD before what throws and FULL", x.over(240, zero), BAD);
        check.throwsJust("what throws before FULL", ArithmeticException.class, () -> x.rest(top, zero));
        check.due("FULL before WIDE", x.add(top, top), FULL);
        check.due("nothing WIDE", x.count(3), 0);
        int a = rowOfValues(x, top, zero), b = rowOfValues(x, zero, zero);
        check.due("STATE before the work", x.eliminate(a, b, 0), STATE);
        check.due("BAD before STATE", x.eliminate(b, b, 0), BAD);
        check.due("STATE of scale", x.scale(a, zero), STATE);
        check.due("VALUES", x.count(0), 240);
    }
}
