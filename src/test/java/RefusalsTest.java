/**
 * "REFUSALS, of several the first one: BAD, then what throws, then STATE, FULL, WIDE. They, and what throws, change
 * nothing." Each one alone and where several would apply, on objects that are empty, plain and full; after each call
 * the object is compared with one that was not asked.
 */
public final class RefusalsTest extends Bench {
    private static final int ZERO = Scene.ZERO, HALF = Scene.HALF, MINUS = Scene.MINUS, TWO = Scene.TWO;
    private static final int TOP_VALUE = Scene.TOP, ONE = Scene.ONE, TINY = Scene.TINY;
    private static final int SHORT = Scene.SHORT, LONG = Scene.LONG, ZEROS = Scene.ZEROS;
    private static final int SINGLE = Scene.SINGLE, UNLIKE = Scene.UNLIKE;
    private static final Scene[] NOT_EMPTY = {Scene.PLAIN, Scene.FULL_VALUES, Scene.FULL_ROWS, Scene.FULL_BOTH};
    private static final int MIN = Integer.MIN_VALUE, MAX = Integer.MAX_VALUE;
    private static final String ARITHMETIC = "throws.ArithmeticException";
    private static final String ARGUMENT = "throws.IllegalArgumentException";
    private static final String INDEX = "throws.ArrayIndexOutOfBoundsException";

    private interface Call {
        long on(PlanFractions x);
    }

    public static void main(String[] args) {
        onAnEmptyObject();
        for (Scene scene : NOT_EMPTY) {
            for (int wrong : new int[] {-1, scene.make().count(0), MIN, MAX}) {
                badValue(scene, wrong);
            }
            for (int wrong : new int[] {-1, scene.make().count(1), MIN, MAX}) {
                badRow(scene, wrong);
            }
            for (int wrong : new int[] {-1, 3, 10, MIN, MAX}) {
                badPlace(scene, wrong);
            }
            badWhat(scene);
            badPairsOfRows(scene);
            throwsByZero(scene);
            throwsForPart(scene);
            throwsForLimb(scene);
            throwsForExact(scene);
            state(scene);
            zeroChangesNothing(scene);
            readingChangesNothing(scene);
        }
        for (Scene scene : new Scene[] {Scene.FULL_VALUES, Scene.FULL_BOTH}) {
            fullValues(scene);
            badBeforeFull(scene);
            throwsBeforeFull(scene);
            fullBeforeWide(scene);
        }
        for (Scene scene : new Scene[] {Scene.FULL_ROWS, Scene.FULL_BOTH}) {
            fullRows(scene);
        }
        for (Scene scene : new Scene[] {Scene.PLAIN, Scene.FULL_ROWS}) {
            wideValues(scene);
        }
        for (Scene scene : NOT_EMPTY) {
            wideRows(scene);
            badBeforeWide(scene);
            stateBeforeWide(scene);
        }
        check.end();
    }

    /** This is due, and after it the object is as one that was not asked, but that count(3) counts WIDE calls. */
    private static void due(Scene scene, String told, String want, Call call) {
        String name = told + " on " + scene;
        for (int look = 0; look < Scene.LOOKS; look++) {
            PlanFractions asked = scene.make(), other = scene.make();
            String got = Check.answer(() -> call.on(asked));
            check.due(name, got, want);
            int more = want.equals(String.valueOf(WIDE)) ? 1 : 0;
            check.due(name + ": WIDE calls", asked.count(3), other.count(3) + more);
            check.due(name + " changes nothing, look " + look, scene.look(asked, look), scene.look(other, look));
        }
    }

    private static void due(Scene scene, String told, long want, Call call) {
        due(scene, told, String.valueOf(want), call);
    }

    // ---- an empty object: "names nothing"

    private static void onAnEmptyObject() {
        Scene empty = Scene.EMPTY;
        badValue(empty, 0);
        badRow(empty, 0);
        badPlace(empty, 0);
        due(empty, "row(0)", BAD, x -> x.row(0));
        due(empty, "count(5)", BAD, x -> x.count(5));
        due(empty, "letter(0)", NONE, x -> x.letter(0));
        due(empty, "value(1, 0)", ARITHMETIC, x -> x.value(1, 0));
        due(empty, "part(0, 0)", ARGUMENT, x -> x.part(0, 0));
        due(empty, "limb(0, 0, 0)", ARGUMENT, x -> x.limb(0, 0, 0));
        due(empty, "clear()", 0, PlanFractions::clear);
        for (int what = 0; what <= 4; what++) {
            int asked = what;
            due(empty, "count(" + what + ")", 0, x -> x.count(asked));
        }
    }

    // ---- BAD: "a number is not as told, or names nothing"

    private static void badValue(Scene scene, int v) {
        String told = " of VALUE " + v;
        due(scene, "add" + told, BAD, x -> x.add(v, HALF));
        due(scene, "add by" + told, BAD, x -> x.add(HALF, v));
        due(scene, "less" + told, BAD, x -> x.less(v, HALF));
        due(scene, "less by" + told, BAD, x -> x.less(HALF, v));
        due(scene, "times" + told, BAD, x -> x.times(v, HALF));
        due(scene, "times by" + told, BAD, x -> x.times(HALF, v));
        due(scene, "over" + told, BAD, x -> x.over(v, HALF));
        due(scene, "over by" + told, BAD, x -> x.over(HALF, v));
        due(scene, "over by 0" + told, BAD, x -> x.over(v, ZERO));
        due(scene, "rest" + told, BAD, x -> x.rest(v, HALF));
        due(scene, "rest by" + told, BAD, x -> x.rest(HALF, v));
        due(scene, "rest by 0" + told, BAD, x -> x.rest(v, ZERO));
        due(scene, "measure" + told, BAD, x -> x.measure(v, HALF));
        due(scene, "measure by" + told, BAD, x -> x.measure(HALF, v));
        due(scene, "order" + told, BAD, x -> x.order(v, HALF));
        due(scene, "order by" + told, BAD, x -> x.order(HALF, v));
        due(scene, "whole" + told, BAD, x -> x.whole(v, 0));
        due(scene, "of" + told, BAD, x -> x.of(v, 1));
        due(scene, "put" + told, BAD, x -> x.put(SHORT, 0, v));
        due(scene, "scale by" + told, BAD, x -> x.scale(SHORT, v));
        due(scene, "decimal" + told, BAD, x -> x.decimal(v, 0, 0));
        due(scene, "part" + told, ARGUMENT, x -> x.part(v, 0));
        due(scene, "limb" + told, ARGUMENT, x -> x.limb(v, 1, 0));
    }

    private static void badRow(Scene scene, int r) {
        String told = " of ROW " + r;
        due(scene, "put" + told, BAD, x -> x.put(r, 0, HALF));
        due(scene, "take" + told, BAD, x -> x.take(r, 0));
        due(scene, "dot" + told, BAD, x -> x.dot(r, SHORT));
        due(scene, "dot by" + told, BAD, x -> x.dot(SHORT, r));
        due(scene, "dot with itself" + told, BAD, x -> x.dot(r, r));
        due(scene, "scale" + told, BAD, x -> x.scale(r, HALF));
        due(scene, "scale by 0" + told, BAD, x -> x.scale(r, ZERO));
        due(scene, "eliminate" + told, BAD, x -> x.eliminate(r, SHORT, 0));
        due(scene, "eliminate by" + told, BAD, x -> x.eliminate(SHORT, r, 0));
        due(scene, "primitive" + told, BAD, x -> x.primitive(r));
        due(scene, "lead" + told, BAD, x -> x.lead(r));
        for (int what = 0; what <= 1; what++) {
            int asked = what;
            due(scene, "alike " + what + told, BAD, x -> x.alike(r, SHORT, asked));
            due(scene, "alike to " + what + told, BAD, x -> x.alike(SHORT, r, asked));
            due(scene, "alike to itself " + what + told, BAD, x -> x.alike(r, r, asked));
        }
    }

    private static void badPlace(Scene scene, int k) {
        due(scene, "put in PLACE " + k, BAD, x -> x.put(SHORT, k, HALF));
        due(scene, "take of PLACE " + k, BAD, x -> x.take(SHORT, k));
        due(scene, "eliminate PLACE " + k, BAD, x -> x.eliminate(SHORT, LONG, k));
        due(scene, "eliminate PLACE " + k + " by 0s", BAD, x -> x.eliminate(SHORT, ZEROS, k));
        due(scene, "eliminate PLACE " + k + " in 0s", BAD, x -> x.eliminate(ZEROS, SHORT, k));
    }

    private static void badWhat(Scene scene) {
        for (int wrong : new int[] {-1, 4, MIN, MAX}) {
            due(scene, "whole, how " + wrong, BAD, x -> x.whole(HALF, wrong));
        }
        for (int wrong : new int[] {-1, 5, MIN, MAX}) {
            due(scene, "of, what " + wrong, BAD, x -> x.of(HALF, wrong));
            due(scene, "count, what " + wrong, BAD, x -> x.count(wrong));
        }
        for (int wrong : new int[] {0, 11, -1, MIN, MAX}) {
            due(scene, "row of " + wrong, BAD, x -> x.row(wrong));
        }
        for (int wrong : NOT_0_OR_1) {
            due(scene, "alike, what " + wrong, BAD, x -> x.alike(SHORT, SHORT, wrong));
            due(scene, "decimal, end " + wrong, BAD, x -> x.decimal(HALF, 0, wrong));
        }
        for (int wrong : new int[] {-1, 31, MIN, MAX}) {
            due(scene, "decimal, n " + wrong, BAD, x -> x.decimal(HALF, wrong, 0));
        }
    }

    private static void badPairsOfRows(Scene scene) {
        due(scene, "dot of unlike lengths", BAD, x -> x.dot(SHORT, SINGLE));
        due(scene, "dot of unlike lengths", BAD, x -> x.dot(SINGLE, SHORT));
        due(scene, "eliminate of unlike lengths", BAD, x -> x.eliminate(SHORT, SINGLE, 0));
        due(scene, "eliminate of unlike lengths", BAD, x -> x.eliminate(SINGLE, SHORT, 0));
        due(scene, "eliminate of unlike lengths, by 0", BAD, x -> x.eliminate(SINGLE, ZEROS, 0));
        due(scene, "eliminate of unlike lengths, in 0", BAD, x -> x.eliminate(ZEROS, SINGLE, 0));
        due(scene, "eliminate by itself", BAD, x -> x.eliminate(SHORT, SHORT, 0));
        due(scene, "eliminate by itself, where it is 0", BAD, x -> x.eliminate(SHORT, SHORT, 2));
        due(scene, "eliminate 0s by themselves", BAD, x -> x.eliminate(ZEROS, ZEROS, 0));
        for (int what = 0; what <= 1; what++) {
            int asked = what;
            due(scene, "alike of unlike lengths", BAD, x -> x.alike(SHORT, SINGLE, asked));
            due(scene, "alike of unlike lengths", BAD, x -> x.alike(SINGLE, SHORT, asked));
        }
    }

    // ---- what throws

    private static void throwsByZero(Scene scene) {
        for (long above : new long[] {0, 1, -1, LEAST, GREATEST}) {
            due(scene, "value(" + above + ", 0)", ARITHMETIC, x -> x.value(above, 0));
        }
        for (int a : new int[] {HALF, MINUS, ZERO, TOP_VALUE, TINY}) {
            due(scene, "VALUE " + a + " over 0", ARITHMETIC, x -> x.over(a, ZERO));
            due(scene, "rest of VALUE " + a + " by 0", ARITHMETIC, x -> x.rest(a, ZERO));
        }
    }

    private static void throwsForPart(Scene scene) {
        due(scene, "ABOVE is no long", ARITHMETIC, x -> x.part(TOP_VALUE, 0));
        due(scene, "BELOW is no long", ARITHMETIC, x -> x.part(TINY, 1));
        for (int part : NOT_0_OR_1) {
            due(scene, "part " + part, ARGUMENT, x -> x.part(HALF, part));
            due(scene, "part " + part + " of one that is no long", ARGUMENT, x -> x.part(TOP_VALUE, part));
            due(scene, "part " + part + " of no VALUE", ARGUMENT, x -> x.part(-1, part));
        }
    }

    private static void throwsForLimb(Scene scene) {
        for (int part : NOT_0_OR_1) {
            due(scene, "limb of part " + part, ARGUMENT, x -> x.limb(HALF, part, 0));
            due(scene, "limb -1 of part " + part, ARGUMENT, x -> x.limb(HALF, part, -1));
        }
        due(scene, "limb -1 of no VALUE", ARGUMENT, x -> x.limb(-1, 0, -1));
        for (int k : new int[] {-1, 1, MIN, MAX}) {
            due(scene, "limb " + k + " of one", INDEX, x -> x.limb(HALF, 0, k));
            due(scene, "limb " + k + " of BELOW", INDEX, x -> x.limb(HALF, 1, k));
        }
        due(scene, "limb 0 of 0", INDEX, x -> x.limb(ZERO, 0, 0));
        due(scene, "limb -1 of 0", INDEX, x -> x.limb(ZERO, 0, -1));
        due(scene, "limb 16 of 512 bits", INDEX, x -> x.limb(TOP_VALUE, 0, 16));
        due(scene, "limb 16 of 512 bits", INDEX, x -> x.limb(TINY, 1, 16));
    }

    private static void throwsForExact(Scene scene) {
        for (int op : new int[] {-1, 10, MIN, MAX}) {
            due(scene, "op " + op, ARGUMENT, x -> x.exact(op, 1, 1));
            due(scene, "op " + op + " by 0", ARGUMENT, x -> x.exact(op, LEAST, 0));
        }
        for (int op = 3; op <= 6; op++) {
            int asked = op;
            due(scene, "op " + op + " by 0", ARITHMETIC, x -> x.exact(asked, 1, 0));
        }
        due(scene, "greatest + 1", ARITHMETIC, x -> x.exact(0, GREATEST, 1));
        due(scene, "least - 1", ARITHMETIC, x -> x.exact(1, LEAST, 1));
        due(scene, "-least", ARITHMETIC, x -> x.exact(7, LEAST, 0));
    }

    // ---- STATE

    private static void state(Scene scene) {
        for (int row : new int[] {SHORT, LONG, ZEROS, SINGLE, UNLIKE}) {
            due(scene, "scale of ROW " + row + " by 0", STATE, x -> x.scale(row, ZERO));
        }
        for (int k = 0; k < 3; k++) {
            int asked = k;
            due(scene, "eliminate PLACE " + k + " by 0", STATE, x -> x.eliminate(LONG, ZEROS, asked));
        }
        due(scene, "eliminate 0 by 0", STATE, x -> x.eliminate(ZEROS, SHORT, 2));
    }

    // ---- FULL

    private static void fullValues(Scene scene) {
        due(scene, "value", FULL, x -> x.value(1, 2));
        due(scene, "value 0", FULL, x -> x.value(0, 1));
        due(scene, "value of the least long", FULL, x -> x.value(LEAST, -1));
        due(scene, "add", FULL, x -> x.add(HALF, MINUS));
        due(scene, "less", FULL, x -> x.less(HALF, HALF));
        due(scene, "times", FULL, x -> x.times(HALF, ZERO));
        due(scene, "over", FULL, x -> x.over(HALF, MINUS));
        due(scene, "rest", FULL, x -> x.rest(HALF, MINUS));
        due(scene, "measure", FULL, x -> x.measure(ZERO, ZERO));
        for (int how = 0; how <= 3; how++) {
            int asked = how;
            due(scene, "whole, how " + how, FULL, x -> x.whole(ONE, asked));
        }
        due(scene, "take", FULL, x -> x.take(SHORT, 0));
        due(scene, "dot", FULL, x -> x.dot(SHORT, SHORT));
    }

    private static void fullRows(Scene scene) {
        for (int n = 1; n <= MOST_PLACES; n++) {
            int asked = n;
            due(scene, "row of " + n, FULL, x -> x.row(asked));
        }
        due(scene, "row of 0: BAD before FULL", BAD, x -> x.row(0));
        due(scene, "row of 11: BAD before FULL", BAD, x -> x.row(11));
    }

    private static void badBeforeFull(Scene scene) {
        due(scene, "add of VALUE 240", BAD, x -> x.add(MOST_VALUES, HALF));
        due(scene, "times by VALUE 240", BAD, x -> x.times(TOP_VALUE, MOST_VALUES));
        due(scene, "whole, how 4", BAD, x -> x.whole(HALF, 4));
        due(scene, "take of PLACE 3", BAD, x -> x.take(SHORT, 3));
        due(scene, "dot of unlike lengths", BAD, x -> x.dot(LONG, SINGLE));
    }

    private static void throwsBeforeFull(Scene scene) {
        due(scene, "value(1, 0)", ARITHMETIC, x -> x.value(1, 0));
        due(scene, "over by 0", ARITHMETIC, x -> x.over(TOP_VALUE, ZERO));
        due(scene, "rest by 0", ARITHMETIC, x -> x.rest(TOP_VALUE, ZERO));
    }

    private static void fullBeforeWide(Scene scene) {
        due(scene, "add", FULL, x -> x.add(TOP_VALUE, ONE));
        due(scene, "less", FULL, x -> x.less(TOP_VALUE, MINUS));
        due(scene, "times", FULL, x -> x.times(TOP_VALUE, TOP_VALUE));
        due(scene, "over", FULL, x -> x.over(TOP_VALUE, TINY));
        due(scene, "rest", FULL, x -> x.rest(MINUS, TOP_VALUE));
        due(scene, "measure", FULL, x -> x.measure(TINY, HALF));
        due(scene, "dot", FULL, x -> x.dot(LONG, LONG));
    }

    // ---- WIDE

    private static void wideValues(Scene scene) {
        due(scene, "add", WIDE, x -> x.add(TOP_VALUE, ONE));
        due(scene, "less", WIDE, x -> x.less(TOP_VALUE, MINUS));
        due(scene, "times", WIDE, x -> x.times(TOP_VALUE, TWO));
        due(scene, "times", WIDE, x -> x.times(TINY, HALF));
        due(scene, "over", WIDE, x -> x.over(TOP_VALUE, HALF));
        due(scene, "over", WIDE, x -> x.over(TINY, TWO));
        due(scene, "rest", WIDE, x -> x.rest(MINUS, TOP_VALUE));
        due(scene, "measure", WIDE, x -> x.measure(TINY, HALF));
        due(scene, "dot", WIDE, x -> x.dot(LONG, LONG));
    }

    /** Acts on ROWS are never FULL. */
    private static void wideRows(Scene scene) {
        due(scene, "scale, the last PLACE", WIDE, x -> x.scale(LONG, TWO));
        due(scene, "scale, the first PLACE", WIDE, x -> x.scale(UNLIKE, HALF));
        due(scene, "eliminate, f", WIDE, x -> x.eliminate(LONG, UNLIKE, 0));
        due(scene, "eliminate, the last PLACE", WIDE, x -> x.eliminate(SHORT, LONG, 1));
        due(scene, "primitive", WIDE, x -> x.primitive(UNLIKE));
    }

    private static void badBeforeWide(Scene scene) {
        due(scene, "add", BAD, x -> x.add(TOP_VALUE, -1));
        due(scene, "times", BAD, x -> x.times(-1, TOP_VALUE));
        due(scene, "dot", BAD, x -> x.dot(LONG, SINGLE));
        due(scene, "scale", BAD, x -> x.scale(LONG, -1));
        due(scene, "eliminate", BAD, x -> x.eliminate(LONG, UNLIKE, 3));
        due(scene, "eliminate", BAD, x -> x.eliminate(LONG, LONG, 0));
    }

    private static void stateBeforeWide(Scene scene) {
        due(scene, "scale of long NUMBERS by 0", STATE, x -> x.scale(LONG, ZERO));
        due(scene, "eliminate in long NUMBERS by 0", STATE, x -> x.eliminate(LONG, UNLIKE, 2));
    }

    // ---- answers that are no refusal and change nothing either

    private static void zeroChangesNothing(Scene scene) {
        due(scene, "eliminate where the ROW is 0", 0, x -> x.eliminate(ZEROS, SHORT, 0));
        due(scene, "eliminate where the ROW is 0, by long NUMBERS", 0, x -> x.eliminate(SHORT, LONG, 2));
        due(scene, "primitive of 0s", 0, x -> x.primitive(ZEROS));
    }

    private static void readingChangesNothing(Scene scene) {
        due(scene, "order", 1, x -> x.order(TOP_VALUE, MINUS));
        due(scene, "of", -1, x -> x.of(MINUS, 1));
        due(scene, "part", -3, x -> x.part(MINUS, 0));
        due(scene, "limb", -1, x -> x.limb(TOP_VALUE, 0, 15));
        due(scene, "exact", 6, x -> x.exact(2, 2, 3));
        due(scene, "lead", 0, x -> x.lead(LONG));
        due(scene, "alike", 0, x -> x.alike(LONG, SHORT, 1));
        due(scene, "letter", '-', x -> x.letter(0));
        due(scene, "letter behind the end", NONE, x -> x.letter(6));
        due(scene, "count of WIDE calls", 1, x -> x.count(3));
    }
}
