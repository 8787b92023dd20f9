/** Objects in a known state, made again as often as a test needs them, and looks that read all that can be seen. */
enum Scene {
    EMPTY, PLAIN, FULL_VALUES, FULL_ROWS, FULL_BOTH;

    /** VALUES of every scene but EMPTY: 0, 1/2, -3/4, 2, 2^512 - 1, 1 and 1/(2^512 - 1). */
    static final int ZERO = 0, HALF = 1, MINUS = 2, TWO = 3, TOP = 12, ONE = 13, TINY = 14, VALUES = 15;

    /** ROWS of every scene but EMPTY: 1/2 -3/4 0; 2 1/2 2^512-1; 0 0 0; 1/2 alone; 1/(2^512-1) 1/2 0; five alike. */
    static final int SHORT = 0, LONG = 1, ZEROS = 2, SINGLE = 3, UNLIKE = 4, ROWS = 10;
    private static final int[][] PLACES = {{HALF, MINUS, ZERO}, {TWO, HALF, TOP}, {ZERO, ZERO, ZERO}, {HALF},
        {TINY, HALF, ZERO}};

    PlanFractions make() {
        PlanFractions x = new PlanFractions();
        if (this == EMPTY) {
            return x;
        }
        makeValues(x);
        for (int row = 0; row < ROWS; row++) {
            Bench.rowOfValues(x, PLACES[row % PLACES.length]);
        }
        x.times(TOP, TOP);
        x.decimal(MINUS, 3, 0);
        if (this == FULL_ROWS || this == FULL_BOTH) {
            for (int row = ROWS; row < Bench.MOST_ROWS; row++) {
                x.row(1);
            }
        }
        if (this == FULL_VALUES || this == FULL_BOTH) {
            Bench.fill(x);
        }
        return x;
    }

    /** 2^512 - 1 is 2^32 - 1 times 2^32 + 1, 2^64 + 1, 2^128 + 1 and 2^256 + 1. */
    private static void makeValues(PlanFractions x) {
        x.value(0, 1);
        x.value(1, 2);
        x.value(-3, 4);
        x.value(2, 1);
        x.value((1L << 32) - 1, 1);
        x.value((1L << 32) + 1, 1);
        for (int made = x.times(4, 5); made < TOP;) {
            made = x.times(made, x.add(made, TWO));
        }
        x.value(1, 1);
        x.over(ONE, TOP);
    }

    boolean hasFullValues() {
        return this == FULL_VALUES || this == FULL_BOTH;
    }

    /** How many looks there are: one object can't be asked for all in 512 calls. */
    static final int LOOKS = 6;

    /** All that one look sees; count(3) is left out, for a WIDE call changes it. */
    String look(PlanFractions x, int which) {
        StringBuilder seen = new StringBuilder();
        switch (which) {
            case 0: lookAtCounts(x, seen); break;
            case 1: lookAtRows(x, seen); break;
            case 2: lookAtPlaces(x, seen); break;
            case 3: lookAtValues(x, seen); break;
            case 4: lookAtLateValues(x, VALUES, Bench.MOST_VALUES / 2, seen); break;
            default: lookAtLateValues(x, Bench.MOST_VALUES / 2, Bench.MOST_VALUES, seen); break;
        }
        return seen.toString();
    }

    private static void lookAtCounts(PlanFractions x, StringBuilder seen) {
        for (int what : new int[] {0, 1, 2, 4}) {
            seen.append(x.count(what)).append(' ');
        }
        seen.append(Check.written(x)).append(' ');
        seen.append(x.value(7, 5)).append(' ').append(x.row(2)).append(' ').append(x.clear());
    }

    private static void lookAtRows(PlanFractions x, StringBuilder seen) {
        for (int row = 0; row < x.count(1); row++) {
            seen.append(x.lead(row)).append(' ');
        }
        for (int row = 0; row < ROWS; row++) {
            for (int other = 0; other < row; other++) {
                seen.append(x.alike(row, other, 0)).append(' ');
            }
        }
    }

    private void lookAtPlaces(PlanFractions x, StringBuilder seen) {
        if (this == EMPTY || hasFullValues()) {
            return;
        }
        for (int row = 0; row < ROWS; row++) {
            seen.append(Bench.places(x, row, PLACES[row % PLACES.length].length)).append(' ');
        }
    }

    private static void lookAtValues(PlanFractions x, StringBuilder seen) {
        for (int value = 0; value < Math.min(x.count(0), VALUES); value++) {
            seen.append(Check.text(x, value)).append(' ');
        }
    }

    private static void lookAtLateValues(PlanFractions x, int from, int to, StringBuilder seen) {
        int end = Math.min(x.count(0), to);
        for (int value = from; value < end; value++) {
            seen.append(x.order(value, ONE)).append(' ');
        }
    }
}
