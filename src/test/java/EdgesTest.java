import java.math.BigInteger;

/** The sentences of the promises that name an edge of their own, one method each: at the edge, and on both sides. */
public final class EdgesTest extends Bench {
    private static final BigInteger ONE = BigInteger.ONE;
    private static final String ARITHMETIC = "throws.ArithmeticException";
    private static final String INDEX = "throws.ArrayIndexOutOfBoundsException";
    private static final long INT_MIN = Integer.MIN_VALUE, INT_MAX = Integer.MAX_VALUE;

    public static void main(String[] args) {
        valueOfTheEndsOfLong();
        floorIsNotAbove();
        measureIsTheGreatest();
        nearestIsEvenOfTwo();
        nearestBesideTheHalf();
        orderOfNeighbours();
        partIsALong();
        limbHas32Bits();
        limbEndsWithLength();
        exactSums();
        exactProducts();
        exactQuotients();
        exactRests();
        exactOfOne();
        decimalDigits0To30();
        decimalOfMultiples();
        decimalBesideMultiples();
        decimalCarries();
        decimalAround0();
        longestDecimal();
        letterOfTheLatest();
        countsGoBothWays();
        clearOfEverything();
        check.end();
    }

    private static void answers(String told, String want, Check.Call call) {
        check.due(told, Check.answer(call), want);
    }

    // ---- 2: "A VALUE, above over below"

    private static void valueOfTheEndsOfLong() {
        String[][] due = {
            {"-9223372036854775808", "-9223372036854775808", "1/1"},
            {"-9223372036854775808", "9223372036854775807", "-9223372036854775808/9223372036854775807"},
            {"9223372036854775807", "-9223372036854775808", "-9223372036854775807/9223372036854775808"},
            {"9223372036854775807", "9223372036854775807", "1/1"},
            {"9223372036854775807", "-9223372036854775807", "-1/1"},
            {"-9223372036854775808", "1", "-9223372036854775808/1"},
            {"-9223372036854775808", "-1", "9223372036854775808/1"},
            {"-9223372036854775808", "2", "-4611686018427387904/1"},
            {"-9223372036854775808", "-2", "4611686018427387904/1"},
            {"1", "-9223372036854775808", "-1/9223372036854775808"},
            {"-1", "-9223372036854775808", "1/9223372036854775808"},
            {"2", "-9223372036854775808", "-1/4611686018427387904"},
            {"0", "-9223372036854775808", "0/1"}, {"0", "9223372036854775807", "0/1"},
            {"9223372036854775807", "1", "9223372036854775807/1"},
            {"-9223372036854775807", "-1", "9223372036854775807/1"},
            {"9223372036854775806", "9223372036854775807", "9223372036854775806/9223372036854775807"},
            {"9223372036854775806", "4", "4611686018427387903/2"}
        };
        PlanFractions x = new PlanFractions();
        for (String[] line : due) {
            int made = x.value(Long.parseLong(line[0]), Long.parseLong(line[1]));
            is("value(" + line[0] + ", " + line[1] + ")", x, made, line[2]);
        }
    }

    // ---- 7: FLOOR is "the greatest whole number not above it", so what is left has the sign of b

    private static void floorIsNotAbove() {
        long[][] due = {{6, 3, 0}, {7, 3, 1}, {8, 3, 2}, {5, 3, 2}, {-6, 3, 0}, {-7, 3, 2}, {-1, 3, 2}, {1, 3, 1},
            {6, -3, 0}, {7, -3, -2}, {1, -3, -2}, {-7, -3, -1}, {-1, -3, -1}, {0, 3, 0}, {0, -3, 0}};
        for (long[] line : due) {
            PlanFractions x = new PlanFractions();
            int whole = x.rest(x.value(line[0], 1), x.value(line[1], 1));
            is("rest of " + line[0] + " by " + line[1], x, whole, line[2] + "/1");
            int fifths = x.rest(x.value(line[0], 5), x.value(line[1], 5));
            check.due("the same in fifths", x.order(fifths, x.value(line[2], 5)), 0);
        }
        PlanFractions x = new PlanFractions();
        int least = x.value(LEAST, 1), minus = x.value(-1, 1), greatest = x.value(GREATEST, 1);
        is("least by -1", x, x.rest(least, minus), "0/1");
        is("least by greatest", x, x.rest(least, greatest), (GREATEST - 1) + "/1");
        is("greatest by least", x, x.rest(greatest, least), "-1/1");
    }

    // ---- 8: "the greatest NUMBER of which both are whole multiples (0 of 0 and 0)"

    private static void measureIsTheGreatest() {
        String[][] due = {{"1/2", "0/1", "1/2"}, {"-1/2", "0/1", "1/2"}, {"1/2", "1/2", "1/2"}, {"1/2", "-1/2", "1/2"},
            {"1/2", "1/3", "1/6"}, {"3/4", "5/6", "1/12"}, {"5/4", "-5/6", "5/12"}, {"-4/1", "-6/1", "2/1"},
            {"4/1", "9/1", "1/1"}, {"1/1", "1/1", "1/1"}, {"0/1", "0/1", "0/1"},
            {"-9223372036854775808/1", "0/1", "9223372036854775808/1"},
            {"-9223372036854775808/1", "-9223372036854775808/1", "9223372036854775808/1"},
            {"1/-9223372036854775808", "0/1", "1/9223372036854775808"},
            {"-9223372036854775808/1", "9223372036854775807/1", "1/1"}};
        for (String[] line : due) {
            PlanFractions x = new PlanFractions();
            int a = parsed(x, line[0]), b = parsed(x, line[1]);
            is("measure of " + line[0] + " and " + line[1], x, x.measure(a, b), line[2]);
            is("measure of " + line[1] + " and " + line[0], x, x.measure(b, a), line[2]);
        }
    }

    private static int parsed(PlanFractions x, String text) {
        String[] parts = text.split("/");
        return x.value(Long.parseLong(parts[0]), Long.parseLong(parts[1]));
    }

    // ---- 9: "the nearest, of two the even one", and the others beside a half

    private static void nearestIsEvenOfTwo() {
        for (long half = -9; half <= 9; half += 2) {
            long down = Math.floorDiv(half, 2L), up = down + 1;
            long[] due = {down, up, down % 2 == 0 ? down : up, half < 0 ? up : down};
            PlanFractions x = new PlanFractions();
            int a = x.value(half, 2);
            for (int how = 0; how <= 3; how++) {
                is("whole(" + half + "/2, " + how + ")", x, x.whole(a, how), due[how] + "/1");
            }
        }
        long[] ends = {LEAST, LEAST + 1, GREATEST, GREATEST - 1};
        String[] nearest = {"-4611686018427387904", "-4611686018427387904", "4611686018427387904", "4611686018427387903"};
        for (int i = 0; i < ends.length; i++) {
            PlanFractions x = new PlanFractions();
            is("the nearest of " + ends[i] + "/2", x, x.whole(x.value(ends[i], 2), 2), nearest[i] + "/1");
        }
    }

    /** As near to one half as 512 bits go. */
    private static void nearestBesideTheHalf() {
        BigInteger below = two(511), half = two(510);
        String[][] due = {{"0/1", "1/1", "0/1", "0/1"}, {"0/1", "1/1", "1/1", "0/1"}};
        for (int side = 0; side <= 1; side++) {
            BigInteger above = side == 0 ? half.subtract(ONE) : half.add(ONE);
            PlanFractions x = new PlanFractions();
            int a = number(x, ratio(above, below));
            int plusOne = number(x, ratio(above.add(below), below));
            for (int how = 0; how <= 3; how++) {
                is("whole beside 1/2, " + how, x, x.whole(a, how), due[side][how]);
            }
            is("the nearest beside 3/2", x, x.whole(plusOne, 2), side == 0 ? "1/1" : "2/1");
        }
    }

    // ---- 10: "a is below, alike to, above b"

    private static void orderOfNeighbours() {
        Model.Ratio[] rising = {ratio(TOP.negate()), ratio(TOP.subtract(ONE).negate()), ratio(LEAST, 1), ratio(-1, 1),
            ratio(TOP.subtract(ONE).negate(), TOP), ratio(ONE.negate(), TOP.subtract(ONE)), ratio(ONE.negate(), TOP),
            ratio(0, 1), ratio(ONE, TOP), ratio(ONE, TOP.subtract(ONE)), ratio(TOP.subtract(BigInteger.TWO), TOP.subtract(ONE)),
            ratio(TOP.subtract(ONE), TOP), ratio(1, 1), ratio(TOP, TOP.subtract(ONE)), ratio(GREATEST, 1), ratio(TOP)};
        for (int i = 0; i < rising.length; i++) {
            for (int j = 0; j < rising.length; j++) {
                PlanFractions x = new PlanFractions();
                int a = number(x, rising[i]), b = number(x, rising[j]);
                check.due("order of " + rising[i] + " and " + rising[j], x.order(a, b), Integer.compare(i, j));
            }
        }
    }

    // ---- 12: "ArithmeticException: it is no long"

    private static void partIsALong() {
        PlanFractions x = new PlanFractions();
        int least = x.value(LEAST, 1), greatest = x.value(GREATEST, 1), one = x.value(1, 1);
        int above = x.add(greatest, one), below = x.less(least, one);
        int underGreatest = x.over(one, greatest), underMore = x.over(one, above), minusUnderMore = x.over(one, least);
        check.due("the least long", x.part(least, 0), LEAST);
        check.due("the greatest long", x.part(greatest, 0), GREATEST);
        answers("one above", ARITHMETIC, () -> x.part(above, 0));
        answers("one below", ARITHMETIC, () -> x.part(below, 0));
        check.due("their BELOW", x.part(above, 1) + x.part(below, 1), 2);
        check.due("the greatest BELOW", x.part(underGreatest, 1), GREATEST);
        answers("a BELOW of one more", ARITHMETIC, () -> x.part(underMore, 1));
        answers("a BELOW of one more", ARITHMETIC, () -> x.part(minusUnderMore, 1));
        check.due("its ABOVE", x.part(minusUnderMore, 0), -1);
        int both = x.over(below, above);
        answers("neither is a long: ABOVE", ARITHMETIC, () -> x.part(both, 0));
        answers("neither is a long: BELOW", ARITHMETIC, () -> x.part(both, 1));
        int turned = x.less(x.value(0, 1), above);
        check.due("-2^63 made of 2^63", x.part(turned, 0), LEAST);
    }

    // ---- 13: "32 bits of the size of ABOVE (part 0), BELOW (1) of a VALUE, k = 0 the lowest, as an int"

    private static void limbHas32Bits() {
        for (int power = 0; power < MOST_LENGTH; power++) {
            PlanFractions x = new PlanFractions();
            int above = big(x, two(power).negate()), below = x.over(x.value(1, 1), above);
            for (int k = 0; k <= power / 32; k++) {
                int due = k == power / 32 ? 1 << power % 32 : 0;
                check.due("limb " + k + " of -2^" + power, x.limb(above, 0, k), due);
                check.due("limb " + k + " of BELOW 2^" + power, x.limb(below, 1, k), due);
            }
        }
        PlanFractions x = new PlanFractions();
        int top = big(x, TOP);
        for (int k = 0; k < 16; k++) {
            check.due("limb " + k + " of 512 bits", x.limb(top, 0, k), -1);
        }
    }

    // ---- 13: "k is not 0 .. (LENGTH + 31) / 32 - 1"

    private static void limbEndsWithLength() {
        for (int length : new int[] {1, 2, 31, 32, 33, 62, 63, 64, 65, 93, 96, 97, 479, 480, 481, 511, 512}) {
            PlanFractions x = new PlanFractions();
            int a = big(x, two(length).subtract(ONE)), b = x.over(x.value(-1, 1), a);
            int last = (length + 31) / 32 - 1;
            check.due("the last limb of " + length, x.limb(a, 0, last) != 0, true);
            answers("one more of " + length, INDEX, () -> x.limb(a, 0, last + 1));
            answers("one before the first", INDEX, () -> x.limb(a, 0, -1));
            check.due("the last limb of BELOW", x.limb(b, 1, last), x.limb(a, 0, last));
            answers("one more of BELOW", INDEX, () -> x.limb(b, 1, last + 1));
            check.due("the only limb of its ABOVE", x.limb(b, 0, 0), 1);
            answers("one more of its ABOVE", INDEX, () -> x.limb(b, 0, 1));
        }
        PlanFractions x = new PlanFractions();
        x.value(0, 1);
        answers("0 has no limb", INDEX, () -> x.limb(0, 0, 0));
        check.due("BELOW of 0 has one", x.limb(0, 1, 0), 1);
        answers("BELOW of 0 has no more", INDEX, () -> x.limb(0, 1, 1));
    }

    // ---- 14: "ArithmeticException: the result does not fit (64 bits; of 8 32), b is 0 (3 to 6)"

    private static void exact(int op, long a, long b, String want) {
        PlanFractions x = new PlanFractions();
        answers("exact(" + op + ", " + a + ", " + b + ")", want, () -> x.exact(op, a, b));
    }

    private static void exact(int op, long a, long b, long want) {
        exact(op, a, b, String.valueOf(want));
    }

    private static void exactSums() {
        exact(0, GREATEST, 0, GREATEST);
        exact(0, GREATEST - 1, 1, GREATEST);
        exact(0, GREATEST, 1, ARITHMETIC);
        exact(0, 1, GREATEST, ARITHMETIC);
        exact(0, GREATEST, GREATEST, ARITHMETIC);
        exact(0, LEAST, 0, LEAST);
        exact(0, LEAST + 1, -1, LEAST);
        exact(0, LEAST, -1, ARITHMETIC);
        exact(0, LEAST, LEAST, ARITHMETIC);
        exact(0, LEAST, GREATEST, -1);
        exact(1, LEAST, 0, LEAST);
        exact(1, LEAST + 1, 1, LEAST);
        exact(1, LEAST, 1, ARITHMETIC);
        exact(1, GREATEST, -1, ARITHMETIC);
        exact(1, GREATEST - 1, -1, GREATEST);
        exact(1, 0, LEAST, ARITHMETIC);
        exact(1, -1, LEAST, GREATEST);
        exact(1, 0, GREATEST, LEAST + 1);
        exact(1, -1, GREATEST, LEAST);
        exact(1, -2, GREATEST, ARITHMETIC);
        exact(1, LEAST, LEAST, 0);
        exact(1, GREATEST, LEAST, ARITHMETIC);
    }

    private static void exactProducts() {
        exact(2, LEAST, 1, LEAST);
        exact(2, 1, LEAST, LEAST);
        exact(2, LEAST, -1, ARITHMETIC);
        exact(2, -1, LEAST, ARITHMETIC);
        exact(2, LEAST, 0, 0);
        exact(2, 0, LEAST, 0);
        exact(2, LEAST, LEAST, ARITHMETIC);
        exact(2, GREATEST, -1, LEAST + 1);
        exact(2, GREATEST, 2, ARITHMETIC);
        exact(2, 1L << 62, 2, ARITHMETIC);
        exact(2, 1L << 62, -2, LEAST);
        exact(2, -(1L << 62), 2, LEAST);
        exact(2, -(1L << 62), -2, ARITHMETIC);
        exact(2, 1L << 32, 1L << 31, ARITHMETIC);
        exact(2, 1L << 32, -(1L << 31), LEAST);
        exact(2, 1L << 32, 1L << 32, ARITHMETIC);
        exact(2, 3037000499L, 3037000499L, 9223372030926249001L);
        exact(2, 3037000500L, 3037000500L, ARITHMETIC);
        // 7 times this is the greatest long.
        exact(2, 1317624576693539401L, 7, GREATEST);
        exact(2, 1317624576693539401L, -7, LEAST + 1);
        exact(2, 1317624576693539402L, 7, ARITHMETIC);
        exact(2, 1317624576693539402L, -7, ARITHMETIC);
    }

    private static void exactQuotients() {
        for (int op : new int[] {3, 5}) {
            exact(op, 1, 0, ARITHMETIC);
            exact(op, 0, 0, ARITHMETIC);
            exact(op, LEAST, 0, ARITHMETIC);
            exact(op, LEAST, -1, ARITHMETIC);
            exact(op, LEAST, 1, LEAST);
            exact(op, LEAST + 1, -1, GREATEST);
            exact(op, GREATEST, -1, LEAST + 1);
            exact(op, LEAST, LEAST, 1);
            exact(op, 0, LEAST, 0);
            exact(op, LEAST, -2, 1L << 62);
            exact(op, 7, 2, 3);
            exact(op, -7, -2, 3);
        }
        exact(3, 7, -2, -3);
        exact(5, 7, -2, -4);
        exact(3, -7, 2, -3);
        exact(5, -7, 2, -4);
        exact(3, -6, 2, -3);
        exact(5, -6, 2, -3);
        exact(3, LEAST, GREATEST, -1);
        exact(5, LEAST, GREATEST, -2);
        exact(3, GREATEST, LEAST, 0);
        exact(5, GREATEST, LEAST, -1);
        exact(3, 1, LEAST, 0);
        exact(5, 1, LEAST, -1);
    }

    private static void exactRests() {
        for (int op : new int[] {4, 6}) {
            exact(op, 1, 0, ARITHMETIC);
            exact(op, 0, 0, ARITHMETIC);
            exact(op, LEAST, 0, ARITHMETIC);
            // The quotient does not fit, but what is left does.
            exact(op, LEAST, -1, 0);
            exact(op, LEAST, 1, 0);
            exact(op, LEAST, LEAST, 0);
            exact(op, GREATEST, GREATEST, 0);
            exact(op, 7, 2, 1);
            exact(op, -7, -2, -1);
            exact(op, 0, LEAST, 0);
        }
        exact(4, 7, -2, 1);
        exact(6, 7, -2, -1);
        exact(4, -7, 2, -1);
        exact(6, -7, 2, 1);
        exact(4, LEAST, GREATEST, -1);
        exact(6, LEAST, GREATEST, GREATEST - 1);
        exact(4, GREATEST, LEAST, GREATEST);
        exact(6, GREATEST, LEAST, -1);
        exact(4, 1, LEAST, 1);
        exact(6, 1, LEAST, LEAST + 1);
    }

    /** b is not looked at. */
    private static void exactOfOne() {
        for (long b : new long[] {0, 1, -1, LEAST, GREATEST}) {
            exact(7, LEAST, b, ARITHMETIC);
            exact(7, LEAST + 1, b, GREATEST);
            exact(7, GREATEST, b, LEAST + 1);
            exact(7, 0, b, 0);
            exact(8, INT_MAX, b, INT_MAX);
            exact(8, INT_MAX + 1, b, ARITHMETIC);
            exact(8, INT_MIN, b, INT_MIN);
            exact(8, INT_MIN - 1, b, ARITHMETIC);
            exact(8, LEAST, b, ARITHMETIC);
            exact(8, GREATEST, b, ARITHMETIC);
            exact(8, 1L << 32, b, ARITHMETIC);
            exact(8, -1, b, -1);
            exact(9, LEAST, b, ARITHMETIC);
            exact(9, LEAST + 1, b, GREATEST);
            exact(9, GREATEST, b, GREATEST);
            exact(9, -1, b, 1);
            exact(9, 0, b, 0);
        }
    }

    // ---- 24: "n (0 .. 30)", "if n is above 0, a point and n digits"

    private static void writes(Model.Ratio ratio, int n, int end, String want) {
        PlanFractions x = new PlanFractions();
        String told = "decimal of " + ratio + " with " + n + ", end " + end;
        check.due(told, x.decimal(number(x, ratio), n, end), want.length());
        check.due(told, Check.written(x), want);
    }

    private static void decimalDigits0To30() {
        for (int n = 0; n <= 30; n++) {
            String point = n == 0 ? "" : ".";
            writes(ratio(1, 3), n, 0, "0" + point + "3".repeat(n));
            writes(ratio(-20, 3), n, 1, "-6" + point + "6".repeat(n));
            writes(ratio(7, 1), n, 1, "7" + point + "0".repeat(n));
            writes(ratio(0, 1), n, n % 2, "0" + point + "0".repeat(n));
            writes(ratio(-100, 1), n, n % 2, "-100" + point + "0".repeat(n));
        }
    }

    // ---- "not above it", "not below it": a multiple is its own DECIMAL at both ends

    private static void decimalOfMultiples() {
        for (int end = 0; end <= 1; end++) {
            writes(ratio(5, 4), 2, end, "1.25");
            writes(ratio(-5, 4), 2, end, "-1.25");
            writes(ratio(-5, 4), 3, end, "-1.250");
            writes(ratio(1, 1000), 3, end, "0.001");
            writes(ratio(LEAST, 1), 0, end, "-9223372036854775808");
            writes(ratio(GREATEST, 1), 1, end, "9223372036854775807.0");
            writes(ratio(ONE, BigInteger.TEN.pow(30)), 30, end, "0." + "0".repeat(29) + "1");
            writes(ratio(ONE, two(30)), 30, end, "0.000000000931322574615478515625");
        }
    }

    /** A multiple and as little more or less as 512 bits can say. */
    private static void decimalBesideMultiples() {
        BigInteger below = BigInteger.TEN.pow(153), above = below.multiply(BigInteger.TWO);
        writes(ratio(above.add(ONE), below), 2, 0, "2.00");
        writes(ratio(above.add(ONE), below), 2, 1, "2.01");
        writes(ratio(above.subtract(ONE), below), 2, 0, "1.99");
        writes(ratio(above.subtract(ONE), below), 2, 1, "2.00");
        writes(ratio(above.add(ONE).negate(), below), 2, 0, "-2.01");
        writes(ratio(above.add(ONE).negate(), below), 2, 1, "-2.00");
        writes(ratio(above.subtract(ONE).negate(), below), 2, 0, "-2.00");
        writes(ratio(above.subtract(ONE).negate(), below), 2, 1, "-1.99");
        writes(ratio(above.add(ONE), below), 30, 1, "2." + "0".repeat(29) + "1");
        writes(ratio(above.subtract(ONE), below), 30, 0, "1." + "9".repeat(30));
    }

    private static void decimalCarries() {
        writes(ratio(999, 1000), 2, 0, "0.99");
        writes(ratio(999, 1000), 2, 1, "1.00");
        writes(ratio(999, 100), 1, 1, "10.0");
        writes(ratio(99, 10), 0, 1, "10");
        writes(ratio(99, 10), 0, 0, "9");
        writes(ratio(-99, 10), 0, 0, "-10");
        writes(ratio(-99, 10), 0, 1, "-9");
        writes(ratio(-9999, 1000), 2, 0, "-10.00");
        writes(ratio(999999999999999999L, 1000000000), 8, 1, "1000000000.00000000");
        writes(ratio(1999999999999999999L, 2), 0, 1, "1000000000000000000");
    }

    // ---- "- (below 0)", "0, or without a 0 ahead": a DECIMAL that is 0 is not below 0

    private static void decimalAround0() {
        Model.Ratio tiny = ratio(ONE, TOP);
        for (int n = 0; n <= 30; n += 15) {
            String zeros = n == 0 ? "" : "." + "0".repeat(n);
            String least = n == 0 ? "1" : "0." + "0".repeat(n - 1) + "1";
            writes(tiny, n, 0, "0" + zeros);
            writes(tiny, n, 1, least);
            writes(tiny.negated(), n, 0, "-" + least);
            writes(tiny.negated(), n, 1, "0" + zeros);
        }
    }

    /** 155 digits, a sign, a point and 30 digits more. */
    private static void longestDecimal() {
        PlanFractions x = new PlanFractions();
        int minus = big(x, TOP.negate());
        String want = TOP.negate() + "." + "0".repeat(30);
        check.due("the longest decimal", x.decimal(minus, 30, 0), 187);
        for (int i = 0; i < want.length(); i++) {
            check.due("its byte " + i, x.letter(i), want.charAt(i));
        }
        check.due("behind its end", x.letter(187), NONE);
    }

    // ---- 25: "Byte i of what was WRITTEN latest; NONE"

    private static void letterOfTheLatest() {
        PlanFractions x = new PlanFractions();
        check.due("nothing WRITTEN", x.letter(0), NONE);
        int third = x.value(1, 3), minus = x.value(-25, 2);
        check.due("nothing WRITTEN yet", x.letter(0), NONE);
        x.decimal(third, 30, 0);
        check.due("the last byte", x.letter(31), '3');
        check.due("behind it", x.letter(32), NONE);
        x.decimal(minus, 0, 0);
        check.due("WRITTEN anew", Check.written(x), "-13");
        check.due("nothing of the one before", x.letter(3), NONE);
        check.due("nor farther on", x.letter(31), NONE);
        for (int i : new int[] {-1, 3, 187, 216, Integer.MIN_VALUE, Integer.MAX_VALUE}) {
            check.due("letter(" + i + ")", x.letter(i), NONE);
        }
        check.due("BAD leaves it", x.decimal(third, 31, 0), BAD);
        check.due("as it was", Check.written(x), "-13");
        x.clear();
        check.due("nothing WRITTEN", x.letter(0), NONE);
        x.value(7, 1);
        check.due("nothing until it is WRITTEN", x.letter(0), NONE);
    }

    // ---- 26: counts rise by what is kept, and clear() brings all of them to 0

    private static void counts(String told, PlanFractions x, int... want) {
        for (int what = 0; what < want.length; what++) {
            check.due(told + ": count(" + what + ")", x.count(what), want[what]);
        }
    }

    private static void countsGoBothWays() {
        PlanFractions x = new PlanFractions();
        counts("a new object", x, 0, 0, 0, 0, 0);
        int zero = x.value(0, 1);
        counts("0 alone", x, 1, 0, 1, 0, 1);
        int big = x.value(LEAST, -1);
        counts("2^63", x, 2, 0, 1, 0, 64);
        x.over(x.value(1, 1), big);
        counts("1/2^63", x, 4, 0, 2, 0, 64);
        int length = 64;
        for (int value = big; length <= 256; length = 2 * length - 1) {
            check.due("the greatest LENGTH", x.count(4), length);
            value = x.times(value, value);
        }
        int row = x.row(1);
        x.put(row, 0, x.count(0) - 1);
        int values = x.count(0);
        int wide = 0;
        for (int turn = 0; turn < 3; turn++) {
            check.due("a WIDE call", x.times(values - 1, values - 1), WIDE);
            check.due("a WIDE act", x.scale(row, values - 1), WIDE);
            check.due("no WIDE one", x.times(zero, zero) >= 0, true);
            wide += 2;
            check.due("WIDE calls", x.count(3), wide);
        }
        counts("ROWS do not count as VALUES", x, values + 3, 1, 5, 6, 505);
        check.due("clear", x.clear(), values + 3);
        counts("after clear", x, 0, 0, 0, 0, 0);
        x.value(5, 1);
        counts("one VALUE after clear", x, 1, 0, 1, 0, 3);
    }

    // ---- 27: "No VALUES, no ROWS, nothing WRITTEN: how many VALUES there were"

    private static void clearOfEverything() {
        for (Scene scene : Scene.values()) {
            PlanFractions x = scene.make();
            int values = x.count(0);
            check.due("clear of " + scene, x.clear(), values);
            counts(scene + " after clear", x, 0, 0, 0, 0, 0);
            check.due("no VALUE", x.of(0, 1), BAD);
            check.due("no VALUE", x.order(0, 0), BAD);
            answers("no VALUE", "throws.IllegalArgumentException", () -> x.part(0, 0));
            check.due("no ROW", x.lead(0), BAD);
            check.due("no ROW", x.take(0, 0), BAD);
            check.due("nothing WRITTEN", x.letter(0), NONE);
            check.due("clear again", x.clear(), 0);
            check.due("a VALUE again", x.value(5, 10), 0);
            is("it is that", x, 0, "1/2");
            check.due("a ROW again", x.row(10), 0);
            check.due("all its PLACES are 0", x.lead(0), NONE);
            check.due("no other ROW", x.lead(1), BAD);
            check.due("DECIMAL again", x.decimal(0, 1, 0), 3);
        }
    }
}
