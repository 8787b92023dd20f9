import java.math.BigInteger;
import java.util.Random;

/** NUMBERS of up to 512 bits in all shapes that are hard for long division and for Euclid, against the model. */
public final class LongNumbersTest {
    private static final int ROUNDS = 1500;
    private static final int PIECE = 62;
    private static final String[][] CALLS = {
        {"add", "rest", "measure", "order"}, {"less", "times", "over", "order"}, {"rest", "over", "whole", "decimal"}
    };

    private final Random random;
    private final Duel duel = new Duel();

    private LongNumbersTest(long seed) {
        random = new Random(seed);
    }

    /** May be given another number of rounds, and the first seed. */
    public static void main(String[] args) {
        int rounds = args.length > 0 ? Integer.parseInt(args[0]) : ROUNDS;
        int first = args.length > 1 ? Integer.parseInt(args[1]) : 0;
        int wrong = 0;
        for (int seed = first; seed < first + rounds && wrong < 5; seed++) {
            LongNumbersTest test = new LongNumbersTest(seed);
            test.round(CALLS[seed % CALLS.length]);
            if (!test.duel.alike) {
                wrong++;
                System.out.println("seed " + seed + ": " + test.duel.told());
            }
        }
        System.out.println(wrong == 0 ? "all " + rounds + " rounds answer as the model does" : wrong + " faults");
        if (wrong != 0) {
            System.exit(1);
        }
    }

    private void round(String[] calls) {
        BigInteger common = random.nextBoolean() ? BigInteger.ONE : shaped(1 + random.nextInt(300));
        int most = 512 - common.bitLength();
        int a = fraction(common, most, random.nextBoolean());
        int b = fraction(common, most, random.nextBoolean());
        for (String call : calls) {
            act(call, a, b);
        }
    }

    private void act(String call, int a, int b) {
        int before = duel.model.values.size();
        if (call.equals("whole")) {
            duel.make(call, a, random.nextInt(4));
        } else if (call.equals("decimal")) {
            int letters = Integer.parseInt(duel.make(call, a, random.nextInt(31), random.nextInt(2)));
            for (int i = 0; i <= letters && duel.calls < Duel.MOST_CALLS; i++) {
                duel.make("letter", i);
            }
        } else {
            duel.make(call, a, b);
        }
        if (duel.alike && duel.model.values.size() > before) {
            duel.lookAt(before, 16);
        }
    }

    /** The common factor stands in ABOVE or in BELOW. */
    private int fraction(BigInteger common, int most, boolean inAbove) {
        BigInteger above = shaped(1 + random.nextInt(inAbove ? most : 512));
        BigInteger below = shaped(1 + random.nextInt(inAbove ? 512 : most));
        if (random.nextInt(3) == 0) {
            BigInteger[] pair = neighbours(1 + random.nextInt(most));
            above = pair[0];
            below = pair[1];
        }
        int top = load(inAbove ? above.multiply(common) : above);
        int bottom = load(inAbove ? below : below.multiply(common));
        int made = Integer.parseInt(duel.make("over", top, bottom));
        return made < 0 ? top : made;
    }

    private BigInteger shaped(int bits) {
        BigInteger number;
        switch (random.nextInt(4)) {
            case 0:
                number = new BigInteger(bits, random);
                break;
            case 1:
                number = BigInteger.ONE.shiftLeft(bits).subtract(BigInteger.ONE);
                break;
            case 2:
                number = BigInteger.ONE.shiftLeft(bits - 1).add(BigInteger.valueOf(random.nextInt(3)));
                break;
            default:
                number = BigInteger.ZERO;
                for (int i = 0; i < 6; i++) {
                    number = number.xor(BigInteger.ONE.shiftLeft(1 + random.nextInt(bits)).subtract(BigInteger.ONE));
                }
                break;
        }
        number = number.bitLength() > bits ? number.shiftRight(1) : number;
        return number.signum() == 0 ? BigInteger.ONE : number;
    }

    /** Two with small quotients throughout, or all but equal: Fibonacci's numbers are Euclid's longest way. */
    private BigInteger[] neighbours(int bits) {
        BigInteger low = BigInteger.valueOf(random.nextInt(2)), high = BigInteger.ONE;
        int most = random.nextInt(3) == 0 ? 60 : 1;
        while (true) {
            BigInteger next = high.multiply(BigInteger.valueOf(1 + random.nextInt(most))).add(low);
            if (next.bitLength() > bits) {
                return new BigInteger[] {high, low.signum() == 0 ? high : low};
            }
            low = high;
            high = next;
        }
    }

    private int load(BigInteger number) {
        int base = Integer.parseInt(duel.make("value", 1L << PIECE, 1));
        int made = Integer.parseInt(duel.make("value", 0, 1));
        BigInteger mask = BigInteger.ONE.shiftLeft(PIECE).subtract(BigInteger.ONE);
        long sign = random.nextBoolean() ? 1 : -1;
        for (int k = number.bitLength() / PIECE; k >= 0; k--) {
            made = Integer.parseInt(duel.make("times", made, base));
            int piece = Integer.parseInt(duel.make("value", sign * number.shiftRight(PIECE * k).and(mask).longValue(), 1));
            made = Integer.parseInt(duel.make("add", made, piece));
        }
        return made;
    }
}
