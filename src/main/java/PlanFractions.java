/**
 * Fractions for plans: NUMBERS in least terms and ROWS of them, as ../shared/DOC.md promises them.
 * A NUMBER never changes once it is made, so VALUES and PLACES share it.
 */
public final class PlanFractions {
    public static final int NONE = -1, BAD = -2, FULL = -3, WIDE = -4, STATE = -5;

    private static final int MOST_VALUES = 240;
    private static final int MOST_ROWS = 20;
    private static final int MOST_PLACES = 10;
    private static final int MOST_LENGTH = 512;
    private static final int MOST_DIGITS = 30;

    // Limbs of 31 bits, not 32: then no product, sum or quotient of them needs an unsigned long.
    private static final int LIMB_BITS = 31;
    private static final int LIMB_MASK = 0x7FFFFFFF;
    private static final long TWO_LIMB_MASK = 0x3FFFFFFFFFFFFFFFL;

    // The longest whole number on the way is a product of four of the greatest LENGTH: 4 times 17 limbs.
    private static final int WORK_LIMBS = 72;

    // Far above the 740 or so turns that two numbers of 512 bits can need.
    private static final int MOST_STEPS = 10000;

    private static final int CHUNK = 1000000000;
    private static final int CHUNK_DIGITS = 9;
    private static final int MOST_LETTERS = 216;

    private final Reckoner reckoner = new Reckoner();
    private final Decimal written = new Decimal();
    private final Fraction[] values = new Fraction[MOST_VALUES];
    private final Row[] rows = new Row[MOST_ROWS];
    private final Fraction[] fresh = new Fraction[MOST_PLACES];
    private int valueCount;
    private int rowCount;
    private int smallCount;
    private int wideCalls;
    private int greatestLength;

    public PlanFractions() {
    }

    public int value(long above, long below) throws ArithmeticException {
        if (below == 0) {
            throw new ArithmeticException("below is 0");
        }
        if (isFull()) {
            return FULL;
        }
        return keep(reckoner.fromLongs(above, below));
    }

    public int add(int a, int b) {
        if (!isValue(a) || !isValue(b)) {
            return BAD;
        }
        if (isFull()) {
            return FULL;
        }
        return keep(reckoner.sum(values[a], values[b], values[b].sign));
    }

    public int less(int a, int b) {
        if (!isValue(a) || !isValue(b)) {
            return BAD;
        }
        if (isFull()) {
            return FULL;
        }
        return keep(reckoner.sum(values[a], values[b], -values[b].sign));
    }

    public int times(int a, int b) {
        if (!isValue(a) || !isValue(b)) {
            return BAD;
        }
        if (isFull()) {
            return FULL;
        }
        return keep(reckoner.product(values[a], values[b]));
    }

    public int over(int a, int b) throws ArithmeticException {
        if (!isValue(a) || !isValue(b)) {
            return BAD;
        }
        if (values[b].sign == 0) {
            throw new ArithmeticException("b is 0");
        }
        if (isFull()) {
            return FULL;
        }
        return keep(reckoner.quotient(values[a], values[b]));
    }

    public int rest(int a, int b) throws ArithmeticException {
        if (!isValue(a) || !isValue(b)) {
            return BAD;
        }
        if (values[b].sign == 0) {
            throw new ArithmeticException("b is 0");
        }
        if (isFull()) {
            return FULL;
        }
        return keep(reckoner.remainder(values[a], values[b]));
    }

    public int measure(int a, int b) {
        if (!isValue(a) || !isValue(b)) {
            return BAD;
        }
        if (isFull()) {
            return FULL;
        }
        return keep(reckoner.commonMeasure(values[a], values[b]));
    }

    public int whole(int a, int how) {
        if (!isValue(a) || how < 0 || how > 3) {
            return BAD;
        }
        if (isFull()) {
            return FULL;
        }
        return keep(reckoner.rounded(values[a], how));
    }

    public int order(int a, int b) {
        if (!isValue(a) || !isValue(b)) {
            return BAD;
        }
        return reckoner.compare(values[a], values[b]);
    }

    public int of(int value, int what) {
        if (!isValue(value)) {
            return BAD;
        }
        Fraction number = values[value];
        switch (what) {
            case 0:
                return number.isSmall() ? 1 : 0;
            case 1:
                return number.sign;
            case 2:
                return number.above.length();
            case 3:
                return number.below.length();
            case 4:
                return number.below.isOne() ? 1 : 0;
            default:
                return BAD;
        }
    }

    public long part(int value, int part) throws IllegalArgumentException, ArithmeticException {
        if (!isValue(value) || part < 0 || part > 1) {
            throw new IllegalArgumentException("no such VALUE or part");
        }
        Whole size = values[value].side(part);
        boolean minus = part == 0 && values[value].sign < 0;
        if (!size.fitsLong(minus)) {
            throw new ArithmeticException("it is no long");
        }
        return minus ? -size.lowLong() : size.lowLong();
    }

    public int limb(int value, int part, int k) throws IllegalArgumentException, ArrayIndexOutOfBoundsException {
        if (!isValue(value) || part < 0 || part > 1) {
            throw new IllegalArgumentException("no such VALUE or part");
        }
        Whole size = values[value].side(part);
        if (k < 0 || k >= (size.length() + 31) / 32) {
            throw new ArrayIndexOutOfBoundsException("no such k");
        }
        return size.word(k);
    }

    public long exact(int op, long a, long b) throws IllegalArgumentException, ArithmeticException {
        if (op < 0 || op > 9) {
            throw new IllegalArgumentException("no such op");
        }
        if (op >= 3 && op <= 6) {
            return exactDivision(op, a, b);
        }
        switch (op) {
            case 0:
                return exactSum(a, b);
            case 1:
                return exactDifference(a, b);
            case 2:
                return exactProduct(a, b);
            case 7:
                return exactDifference(0, a);
            case 8:
                return exactInt(a);
            default:
                return a < 0 ? exactDifference(0, a) : a;
        }
    }

    public int row(int n) {
        if (n < 1 || n > MOST_PLACES) {
            return BAD;
        }
        if (rowCount >= MOST_ROWS) {
            return FULL;
        }
        rows[rowCount] = new Row(n, reckoner.zero);
        rowCount++;
        return rowCount - 1;
    }

    public int put(int row, int k, int value) {
        if (!isPlace(row, k) || !isValue(value)) {
            return BAD;
        }
        rows[row].places[k] = values[value];
        return 1;
    }

    public int take(int row, int k) {
        if (!isPlace(row, k)) {
            return BAD;
        }
        if (isFull()) {
            return FULL;
        }
        return keep(rows[row].places[k]);
    }

    public int dot(int row, int other) {
        if (!areAsLong(row, other)) {
            return BAD;
        }
        if (isFull()) {
            return FULL;
        }
        Fraction[] places = rows[row].places;
        Fraction[] others = rows[other].places;
        Fraction sum = reckoner.zero;
        for (int i = 0; i < places.length && sum != null; i++) {
            Fraction product = reckoner.product(places[i], others[i]);
            sum = product == null ? null : reckoner.sum(sum, product, product.sign);
        }
        return keep(sum);
    }

    public int scale(int row, int value) {
        if (!isRow(row) || !isValue(value)) {
            return BAD;
        }
        Fraction factor = values[value];
        if (factor.sign == 0) {
            return STATE;
        }
        Fraction[] places = rows[row].places;
        for (int i = 0; i < places.length; i++) {
            fresh[i] = reckoner.product(places[i], factor);
            if (fresh[i] == null) {
                return tooWide();
            }
        }
        return renew(places);
    }

    public int eliminate(int row, int by, int k) {
        if (!areAsLong(row, by) || row == by || !isPlace(row, k)) {
            return BAD;
        }
        Fraction[] places = rows[row].places;
        Fraction[] others = rows[by].places;
        if (others[k].sign == 0) {
            return STATE;
        }
        if (places[k].sign == 0) {
            return 0;
        }
        Fraction factor = reckoner.quotient(places[k], others[k]);
        for (int i = 0; i < places.length; i++) {
            Fraction product = factor == null ? null : reckoner.product(factor, others[i]);
            fresh[i] = product == null ? null : reckoner.sum(places[i], product, -product.sign);
            if (fresh[i] == null) {
                return tooWide();
            }
        }
        return renew(places);
    }

    public int primitive(int row) {
        if (!isRow(row)) {
            return BAD;
        }
        Fraction[] places = rows[row].places;
        Fraction common = commonMeasureOfAll(places);
        if (common == null) {
            return tooWide();
        }
        if (common.sign == 0) {
            return 0;
        }
        for (int i = 0; i < places.length; i++) {
            fresh[i] = reckoner.quotient(places[i], common);
            if (fresh[i] == null) {
                return tooWide();
            }
        }
        return renew(places);
    }

    public int lead(int row) {
        return isRow(row) ? rows[row].firstNotZero() : BAD;
    }

    public int alike(int row, int other, int what) {
        if (!areAsLong(row, other) || what < 0 || what > 1) {
            return BAD;
        }
        boolean yes = what == 0 ? areEqual(rows[row], rows[other]) : areInProportion(rows[row], rows[other]);
        return yes ? 1 : 0;
    }

    public int decimal(int value, int n, int end) {
        if (!isValue(value) || n < 0 || n > MOST_DIGITS || end < 0 || end > 1) {
            return BAD;
        }
        boolean minus = values[value].sign < 0;
        written.write(minus, reckoner.multipleBeside(values[value], n, end), n);
        return written.size;
    }

    public int letter(int i) {
        return i >= 0 && i < written.size ? written.letters[i] : NONE;
    }

    public int count(int what) {
        switch (what) {
            case 0:
                return valueCount;
            case 1:
                return rowCount;
            case 2:
                return smallCount;
            case 3:
                return wideCalls;
            case 4:
                return greatestLength;
            default:
                return BAD;
        }
    }

    public int clear() {
        int before = valueCount;
        valueCount = 0;
        rowCount = 0;
        smallCount = 0;
        wideCalls = 0;
        greatestLength = 0;
        written.size = 0;
        return before;
    }

    private boolean isValue(int number) {
        return number >= 0 && number < valueCount;
    }

    private boolean isRow(int number) {
        return number >= 0 && number < rowCount;
    }

    private boolean isPlace(int row, int k) {
        return isRow(row) && k >= 0 && k < rows[row].places.length;
    }

    private boolean areAsLong(int row, int other) {
        return isRow(row) && isRow(other) && rows[row].places.length == rows[other].places.length;
    }

    private boolean isFull() {
        return valueCount >= MOST_VALUES;
    }

    private int tooWide() {
        wideCalls++;
        return WIDE;
    }

    /** Keeps a NUMBER as the next VALUE; null stands for one that is WIDE. */
    private int keep(Fraction number) {
        if (number == null) {
            return tooWide();
        }
        values[valueCount] = number;
        valueCount++;
        if (number.isSmall()) {
            smallCount++;
        }
        greatestLength = Math.max(greatestLength, number.greaterLength());
        return valueCount - 1;
    }

    /** An act on a ROW works beside it and comes here only when nothing was WIDE. */
    private int renew(Fraction[] places) {
        for (int i = 0; i < places.length; i++) {
            places[i] = fresh[i];
        }
        return 1;
    }

    private Fraction commonMeasureOfAll(Fraction[] places) {
        Fraction common = reckoner.zero;
        for (int i = 0; i < places.length && common != null; i++) {
            common = reckoner.commonMeasure(common, places[i]);
        }
        return common;
    }

    private boolean areEqual(Row row, Row other) {
        for (int i = 0; i < row.places.length; i++) {
            if (!row.places[i].isSame(other.places[i])) {
                return false;
            }
        }
        return true;
    }

    private boolean areInProportion(Row row, Row other) {
        int first = row.firstNotZero();
        if (first != other.firstNotZero()) {
            return false;
        }
        if (first == NONE) {
            return true;
        }
        for (int i = first + 1; i < row.places.length; i++) {
            if (!reckoner.isSameRatio(row.places[i], row.places[first], other.places[i], other.places[first])) {
                return false;
            }
        }
        return true;
    }

    private static long exactSum(long a, long b) {
        long sum = a + b;
        if (((a ^ sum) & (b ^ sum)) < 0) {
            throw new ArithmeticException("the sum is no long");
        }
        return sum;
    }

    private static long exactDifference(long a, long b) {
        long difference = a - b;
        if (((a ^ b) & (a ^ difference)) < 0) {
            throw new ArithmeticException("the difference is no long");
        }
        return difference;
    }

    private static long exactProduct(long a, long b) {
        if (a == 0) {
            return 0;
        }
        long product = a * b;
        // Dividing back can't see -1 times the least long, whose quotient wraps too.
        if (product / a != b || (a == -1 && b == Long.MIN_VALUE)) {
            throw new ArithmeticException("the product is no long");
        }
        return product;
    }

    private static long exactDivision(int op, long a, long b) {
        if (b == 0) {
            throw new ArithmeticException("b is 0");
        }
        if (op == 4) {
            return a % b;
        }
        if (op == 6) {
            return Math.floorMod(a, b);
        }
        if (a == Long.MIN_VALUE && b == -1) {
            throw new ArithmeticException("the quotient is no long");
        }
        return op == 3 ? a / b : Math.floorDiv(a, b);
    }

    private static long exactInt(long a) {
        if (a != (int) a) {
            throw new ArithmeticException("it is no int");
        }
        return a;
    }

    /** A NUMBER: its sign, and the sizes of ABOVE and BELOW in least terms. */
    private static final class Fraction {
        final int sign;
        final Whole above;
        final Whole below;

        Fraction(int sign, Whole above, Whole below) {
            this.sign = sign;
            this.above = above;
            this.below = below;
        }

        Whole side(int which) {
            return which == 0 ? above : below;
        }

        boolean isSmall() {
            return above.fitsLong(sign < 0) && below.fitsLong(false);
        }

        int greaterLength() {
            return Math.max(above.length(), below.length());
        }

        boolean isSame(Fraction other) {
            return sign == other.sign && above.compareWith(other.above) == 0 && below.compareWith(other.below) == 0;
        }
    }

    private static final class Row {
        final Fraction[] places;

        Row(int n, Fraction zero) {
            places = new Fraction[Math.max(n, 0)];
            for (int i = 0; i < places.length; i++) {
                places[i] = zero;
            }
        }

        int firstNotZero() {
            for (int i = 0; i < places.length; i++) {
                if (places[i].sign != 0) {
                    return i;
                }
            }
            return NONE;
        }
    }

    /** A whole number, 0 or above it, as limbs from the lowest on; the highest limb in use is not 0. */
    private static final class Whole {
        final int[] limbs;
        int size;

        Whole(int room) {
            limbs = new int[Math.max(room, 0)];
        }

        void setLong(long bits) {
            limbs[0] = (int) bits & LIMB_MASK;
            limbs[1] = (int) (bits >>> LIMB_BITS) & LIMB_MASK;
            limbs[2] = (int) (bits >>> 2 * LIMB_BITS);
            size = 3;
            trim();
        }

        void copy(Whole from) {
            System.arraycopy(from.limbs, 0, limbs, 0, from.size);
            size = from.size;
        }

        /** A copy that takes no more room than it needs. */
        Whole kept() {
            Whole copy = new Whole(size);
            copy.copy(this);
            return copy;
        }

        void trim() {
            while (size > 0 && limbs[size - 1] == 0) {
                size--;
            }
        }

        long limbOrZero(int i) {
            return i >= 0 && i < size ? limbs[i] : 0;
        }

        boolean isOne() {
            return size == 1 && limbs[0] == 1;
        }

        boolean isOdd() {
            return (limbOrZero(0) & 1) == 1;
        }

        int length() {
            return size == 0 ? 0 : LIMB_BITS * size + 1 - Integer.numberOfLeadingZeros(limbs[size - 1]);
        }

        /** The lowest 64 bits. */
        long lowLong() {
            return limbOrZero(0) | limbOrZero(1) << LIMB_BITS | limbOrZero(2) << 2 * LIMB_BITS;
        }

        boolean fitsLong(boolean minus) {
            int length = length();
            return length < 64 || (minus && length == 64 && lowLong() == Long.MIN_VALUE);
        }

        /** 32 bits, from bit 32 k on; two limbs always hold them all. */
        int word(int k) {
            int limb = 32 * k / LIMB_BITS;
            int skip = 32 * k % LIMB_BITS;
            return (int) (limbOrZero(limb) >>> skip | limbOrZero(limb + 1) << (LIMB_BITS - skip));
        }

        int compareWith(Whole other) {
            if (size != other.size) {
                return size < other.size ? -1 : 1;
            }
            for (int i = size - 1; i >= 0; i--) {
                if (limbs[i] != other.limbs[i]) {
                    return limbs[i] < other.limbs[i] ? -1 : 1;
                }
            }
            return 0;
        }

        /** May be one of both. */
        void setSum(Whole a, Whole b) {
            int most = Math.max(a.size, b.size);
            long carry = 0;
            for (int i = 0; i < most; i++) {
                carry += a.limbOrZero(i) + b.limbOrZero(i);
                limbs[i] = (int) carry & LIMB_MASK;
                carry >>>= LIMB_BITS;
            }
            limbs[most] = (int) carry;
            size = most + 1;
            trim();
        }

        /** Of a and a b that is not above it; may be one of both. */
        void setDifference(Whole a, Whole b) {
            int most = a.size;
            long borrow = 0;
            for (int i = 0; i < most; i++) {
                borrow += a.limbOrZero(i) - b.limbOrZero(i);
                limbs[i] = (int) borrow & LIMB_MASK;
                borrow >>= LIMB_BITS;
            }
            size = most;
            trim();
        }

        /** Must be neither of both. */
        void setProduct(Whole a, Whole b) {
            size = a.size + b.size;
            for (int i = 0; i < size; i++) {
                limbs[i] = 0;
            }
            for (int i = 0; i < a.size; i++) {
                long factor = a.limbs[i];
                long carry = 0;
                for (int j = 0; j < b.size; j++) {
                    carry += factor * b.limbs[j] + limbs[i + j];
                    limbs[i + j] = (int) carry & LIMB_MASK;
                    carry >>>= LIMB_BITS;
                }
                limbs[i + b.size] = (int) carry;
            }
            trim();
        }

        void grow(int factor) {
            long carry = 0;
            for (int i = 0; i < size; i++) {
                carry += (long) factor * limbs[i];
                limbs[i] = (int) carry & LIMB_MASK;
                carry >>>= LIMB_BITS;
            }
            limbs[size] = (int) carry;
            size++;
            trim();
        }

        void addOne() {
            int i = 0;
            while (i < size && limbs[i] == LIMB_MASK) {
                limbs[i] = 0;
                i++;
            }
            if (i == size) {
                limbs[i] = 0;
                size++;
            }
            limbs[i]++;
        }

        /** Becomes its quotient by one limb; answers what is left. */
        int shrink(int divisor) {
            if (divisor <= 0) {
                return 0;
            }
            long left = 0;
            for (int i = size - 1; i >= 0; i--) {
                left = left << LIMB_BITS | limbs[i];
                limbs[i] = (int) (left / divisor);
                left %= divisor;
            }
            trim();
            return (int) left;
        }

        /** Becomes what is left of it by another one, which is not 0; needs a free limb above. */
        void divide(Whole by, Whole quotient) {
            quotient.size = 0;
            if (by.size == 0 || size < by.size) {
                return;
            }
            if (by.size == 1) {
                quotient.copy(this);
                limbs[0] = quotient.shrink(by.limbs[0]);
                size = 1;
                trim();
                return;
            }
            int top = size - by.size;
            int shift = by.freeBits();
            long head = by.twoLimbs(by.size - 1, shift);
            limbs[size] = 0;
            size++;
            for (int at = top; at >= 0; at--) {
                long high = twoLimbs(at + by.size, shift);
                long low = twoLimbs(at + by.size - 2, shift) >>> LIMB_BITS & LIMB_MASK;
                quotient.limbs[at] = takeAway(by, guess(high, low, head), at);
            }
            quotient.size = top + 1;
            quotient.trim();
            size = by.size;
            trim();
        }

        /** How far the number can be shifted up within its highest limb; 0 of 0. */
        int freeBits() {
            return size == 0 ? 0 : Integer.numberOfLeadingZeros(limbs[size - 1]) - 1;
        }

        /** Limbs i and i - 1 of this number shifted up; what comes above limb i is left out. */
        long twoLimbs(int i, int shift) {
            return (limbOrZero(i) << LIMB_BITS + shift | limbOrZero(i - 1) << shift
                | limbOrZero(i - 2) >>> (LIMB_BITS - shift)) & TWO_LIMB_MASK;
        }

        /** The next limb of a quotient, or one more, from the highest three limbs over two (Knuth's algorithm D). */
        private static long guess(long high, long low, long head) {
            long first = head >>> LIMB_BITS;
            long second = head & LIMB_MASK;
            if (first == 0) {
                return 0;
            }
            long digit = Math.min(high / first, LIMB_MASK);
            long left = high - digit * first;
            return left <= LIMB_MASK && digit * second > (left << LIMB_BITS | low) ? digit - 1 : digit;
        }

        /** Takes digit times another one away from limb at on; answers the digit, mended if it was one too many. */
        private int takeAway(Whole by, long digit, int at) {
            if (digit == 0) {
                return 0;
            }
            long carry = 0;
            for (int i = 0; i < by.size; i++) {
                carry += digit * by.limbs[i];
                int next = limbs[at + i] - ((int) carry & LIMB_MASK);
                carry >>>= LIMB_BITS;
                if (next < 0) {
                    carry++;
                }
                limbs[at + i] = next & LIMB_MASK;
            }
            if (limbs[at + by.size] < carry) {
                giveBack(by, at);
                return (int) digit - 1;
            }
            return (int) digit;
        }

        private void giveBack(Whole by, int at) {
            long carry = 0;
            for (int i = 0; i < by.size; i++) {
                carry += (long) limbs[at + i] + by.limbs[i];
                limbs[at + i] = (int) carry & LIMB_MASK;
                carry >>>= LIMB_BITS;
            }
        }
    }

    /**
     * Finds greatest common divisors by turns: x becomes y, and y what is left of x by y. Where the highest bits of
     * both tell the quotients of many turns, it takes those turns at once (Lehmer's way, stopped as Collins does).
     */
    private static final class Euclid {
        private final Whole unused = new Whole(WORK_LIMBS);
        private Whole x = new Whole(WORK_LIMBS);
        private Whole y = new Whole(WORK_LIMBS);
        // After the turns foreseen x is xByX times x plus xByY times y, and y likewise.
        private long xByX;
        private long xByY;
        private long yByX;
        private long yByY;

        /** Into becomes the greatest common divisor of two; if one is 0, the other one. */
        void find(Whole a, Whole b, Whole into) {
            if (a.isOne() || b.isOne()) {
                into.setLong(1);
                return;
            }
            boolean inOrder = a.compareWith(b) >= 0;
            x.copy(inOrder ? a : b);
            y.copy(inOrder ? b : a);
            for (int i = 0; i < MOST_STEPS && x.size > 2 && y.size > 0; i++) {
                if (foresee()) {
                    leap();
                } else {
                    x.divide(y, unused);
                    Whole next = x;
                    x = y;
                    y = next;
                }
            }
            if (x.size > 2) {
                into.copy(x);
            } else {
                into.setLong(commonOfLongs(x.lowLong(), y.lowLong()));
            }
        }

        /** Of x and a y not above it: whether their highest two limbs tell a quotient; all that they tell are noted. */
        private boolean foresee() {
            int shift = x.freeBits();
            long p = x.twoLimbs(x.size - 1, shift);
            long q = y.twoLimbs(x.size - 1, shift);
            long byX = 0, byY = 0, nextByX = 1, nextByY = 0, lastByX = 0, lastByY = 1;
            long sign = -1;
            for (int i = 0; i < MOST_STEPS && q > 0 && q >= lastByY && p - q >= nextByY + lastByY; i++) {
                long quotient = p / q;
                long left = p % q;
                p = q;
                q = left;
                long newByX = nextByX + quotient * lastByX;
                long newByY = nextByY + quotient * lastByY;
                byX = nextByX;
                byY = nextByY;
                nextByX = lastByX;
                nextByY = lastByY;
                lastByX = newByX;
                lastByY = newByY;
                sign = -sign;
            }
            xByX = sign * byX;
            xByY = -sign * byY;
            yByX = -sign * nextByX;
            yByY = sign * nextByY;
            return byY != 0;
        }

        /** Takes the turns foreseen. */
        private void leap() {
            int size = x.size;
            long xCarry = 0;
            long yCarry = 0;
            for (int i = 0; i < size; i++) {
                long ofX = x.limbOrZero(i);
                long ofY = y.limbOrZero(i);
                xCarry += xByX * ofX + xByY * ofY;
                yCarry += yByX * ofX + yByY * ofY;
                x.limbs[i] = (int) xCarry & LIMB_MASK;
                y.limbs[i] = (int) yCarry & LIMB_MASK;
                xCarry >>= LIMB_BITS;
                yCarry >>= LIMB_BITS;
            }
            x.size = size;
            y.size = size;
            x.trim();
            y.trim();
        }

        private static long commonOfLongs(long a, long b) {
            long p = a;
            long q = b;
            for (int i = 0; i < MOST_STEPS && q != 0; i++) {
                long left = p % q;
                p = q;
                q = left;
            }
            return p;
        }
    }

    /** The arithmetic of NUMBERS, with the room that it works in; it answers null for what is WIDE. */
    private static final class Reckoner {
        final Fraction zero;
        private final Euclid euclid = new Euclid();
        private final Whole dividend = new Whole(WORK_LIMBS);
        private final Whole unused = new Whole(WORK_LIMBS);
        private final Whole common = new Whole(WORK_LIMBS);
        private final Whole cutA = new Whole(WORK_LIMBS);
        private final Whole cutB = new Whole(WORK_LIMBS);
        private final Whole left = new Whole(WORK_LIMBS);
        private final Whole right = new Whole(WORK_LIMBS);
        private final Whole above = new Whole(WORK_LIMBS);
        private final Whole below = new Whole(WORK_LIMBS);
        private final Whole one = new Whole(3);

        Reckoner() {
            one.setLong(1);
            zero = new Fraction(0, new Whole(0), one);
        }

        Fraction fromLongs(long top, long bottom) {
            if (top == 0) {
                return zero;
            }
            left.setLong(top < 0 ? -top : top);
            right.setLong(bottom < 0 ? -bottom : bottom);
            euclid.find(left, right, common);
            divideOut(left, common, above);
            divideOut(right, common, below);
            return made((top < 0) == (bottom < 0) ? 1 : -1);
        }

        /** The sum of two, the sign of b being told: the other sign makes it a difference. */
        Fraction sum(Fraction a, Fraction b, int signOfB) {
            if (signOfB == 0) {
                return a;
            }
            if (a.sign == 0) {
                return new Fraction(signOfB, b.above, b.below);
            }
            bringTogether(a, b);
            int sign = a.sign;
            if (a.sign == signOfB) {
                left.setSum(left, right);
            } else if (left.compareWith(right) >= 0) {
                left.setDifference(left, right);
            } else {
                left.setDifference(right, left);
                sign = signOfB;
            }
            return left.size == 0 ? zero : overBoth(sign, left, common, b.below);
        }

        Fraction product(Fraction a, Fraction b) {
            return productBy(a, b.sign, b.above, b.below);
        }

        /** The divisor is not 0. */
        Fraction quotient(Fraction a, Fraction b) {
            return productBy(a, b.sign, b.below, b.above);
        }

        /** What is left of a by b, which is not 0: 0 or of b's sign. */
        Fraction remainder(Fraction a, Fraction b) {
            bringTogether(a, b);
            left.divide(right, unused);
            if (left.size == 0) {
                return zero;
            }
            if (a.sign != b.sign) {
                left.setDifference(right, left);
            }
            // BELOW of b, not the common divisor: b may be taken away so often that more cancels.
            return overBoth(b.sign, left, b.below, b.below);
        }

        /** Of two in least terms it is in least terms as it comes. */
        Fraction commonMeasure(Fraction a, Fraction b) {
            euclid.find(a.below, b.below, common);
            divideOut(a.below, common, cutA);
            below.setProduct(cutA, b.below);
            euclid.find(a.above, b.above, above);
            return above.size == 0 ? zero : made(1);
        }

        Fraction rounded(Fraction a, int how) {
            left.copy(a.above);
            left.divide(a.below, above);
            if (left.size == 0) {
                return a;
            }
            if (isAwayFromZero(a, how)) {
                above.addOne();
            }
            below.copy(one);
            return above.size == 0 ? zero : made(a.sign);
        }

        /** Of a NUMBER cut toward 0, with the quotient in above and what is left in left. */
        private boolean isAwayFromZero(Fraction a, int how) {
            if (how == 2) {
                right.setDifference(a.below, left);
                int half = left.compareWith(right);
                return half > 0 || (half == 0 && above.isOdd());
            }
            return (how == 0 && a.sign < 0) || (how == 1 && a.sign > 0);
        }

        /** The size of the multiple of 10 to the power -n beside a NUMBER, as a count of those. */
        Whole multipleBeside(Fraction a, int n, int end) {
            left.copy(a.above);
            for (int i = 0; i < n; i++) {
                left.grow(10);
            }
            left.divide(a.below, above);
            if (left.size > 0 && (end == 1) == (a.sign > 0)) {
                above.addOne();
            }
            return above;
        }

        int compare(Fraction a, Fraction b) {
            if (a.sign != b.sign) {
                return a.sign < b.sign ? -1 : 1;
            }
            left.setProduct(a.above, b.below);
            right.setProduct(b.above, a.below);
            return a.sign * left.compareWith(right);
        }

        /** Whether a is to b as c is to d; b and d are not 0. */
        boolean isSameRatio(Fraction a, Fraction b, Fraction c, Fraction d) {
            if (a.sign * d.sign != c.sign * b.sign) {
                return false;
            }
            left.setProduct(a.above, d.above);
            right.setProduct(c.below, b.below);
            above.setProduct(left, right);
            left.setProduct(c.above, b.above);
            right.setProduct(a.below, d.below);
            below.setProduct(left, right);
            return above.compareWith(below) == 0;
        }

        /** Sets left and right to the sizes of ABOVE over the least BELOW of both, which is cutA times that of b. */
        private void bringTogether(Fraction a, Fraction b) {
            euclid.find(a.below, b.below, common);
            divideOut(a.below, common, cutA);
            divideOut(b.below, common, cutB);
            left.setProduct(a.above, cutB);
            right.setProduct(b.above, cutA);
        }

        /** A number over cutA times a bottom; whatever it shares with that, it shares with the one told. */
        private Fraction overBoth(int sign, Whole number, Whole sharing, Whole bottom) {
            euclid.find(number, sharing, cutB);
            divideOut(number, cutB, above);
            divideOut(bottom, cutB, right);
            below.setProduct(cutA, right);
            return made(sign);
        }

        /** Cuts crosswise first: then the products are in least terms and no longer than they must be. */
        private Fraction productBy(Fraction a, int sign, Whole top, Whole bottom) {
            if (a.sign == 0 || sign == 0) {
                return zero;
            }
            euclid.find(a.above, bottom, common);
            divideOut(a.above, common, cutA);
            divideOut(bottom, common, left);
            euclid.find(top, a.below, common);
            divideOut(top, common, cutB);
            divideOut(a.below, common, right);
            above.setProduct(cutA, cutB);
            below.setProduct(left, right);
            return made(a.sign * sign);
        }

        /** The NUMBER in above and below, which are in least terms. */
        private Fraction made(int sign) {
            if (above.length() > MOST_LENGTH || below.length() > MOST_LENGTH) {
                return null;
            }
            return new Fraction(sign, above.kept(), below.kept());
        }

        /** Into becomes number over a divisor of it. */
        private void divideOut(Whole number, Whole divisor, Whole into) {
            if (divisor.isOne()) {
                into.copy(number);
                return;
            }
            dividend.copy(number);
            dividend.divide(divisor, into);
        }
    }

    /** What was WRITTEN latest. */
    private static final class Decimal {
        final byte[] letters = new byte[MOST_LETTERS];
        int size;
        private final byte[] digits = new byte[MOST_LETTERS];

        /** Writes a number, which it uses up, with so many of its digits behind the point. */
        void write(boolean minus, Whole number, int places) {
            size = 0;
            if (minus && number.size > 0) {
                append('-');
            }
            int count = splitDigits(number, places + 1);
            for (int i = count - 1; i >= 0; i--) {
                append(digits[i]);
                if (i == places && i > 0) {
                    append('.');
                }
            }
        }

        private void append(int letter) {
            if (size < letters.length) {
                letters[size] = (byte) letter;
                size++;
            }
        }

        /** Digits from the lowest on, at least so many and else without a 0 ahead: how many. */
        private int splitDigits(Whole number, int least) {
            int count = 0;
            while (number.size > 0 && count + CHUNK_DIGITS <= digits.length) {
                int chunk = number.shrink(CHUNK);
                for (int i = 0; i < CHUNK_DIGITS; i++) {
                    digits[count] = (byte) ('0' + chunk % 10);
                    chunk /= 10;
                    count++;
                }
            }
            while (count < least) {
                digits[count] = '0';
                count++;
            }
            while (count > least && digits[count - 1] == '0') {
                count--;
            }
            return count;
        }
    }
}
