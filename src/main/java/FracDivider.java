/** A fractional clock divider: out of every m ticks, n give a pulse. */
public final class FracDivider {
    private static final int LARGEST = 65535;

    private static final int ACCEPTED = 0;
    private static final int OUT_OF_RANGE = -1;
    private static final int ZERO_MODULUS = -2;
    private static final int ABOVE_ONE = -3;

    private static final int NO_PULSE = 0;
    private static final int PULSE = 1;

    // Between calls: numerator <= modulus and remainder < modulus.
    private char numerator;
    private char modulus;
    private char remainder;

    public FracDivider() {
        numerator = 0;
        modulus = 1;
        remainder = 0;
    }

    public int setRatio(int n, int m) {
        int answer = judge(n, m);
        if (answer == ACCEPTED) {
            // Lossless: judge has refused whatever a char can't hold.
            numerator = (char) n;
            modulus = (char) m;
            remainder = 0;
        }
        return answer;
    }

    public int tick() {
        // An int, because the sum can be past the range of a char.
        int sum = remainder + numerator;
        if (sum >= modulus) {
            // One subtraction is enough: sum < 2 * modulus, as the numerator
            // is at most the modulus and the remainder is below it.
            remainder = (char) (sum - modulus);
            return PULSE;
        }
        remainder = (char) sum;
        return NO_PULSE;
    }

    public int phase() {
        return remainder;
    }

    // The order of the conditions is part of the promise.
    private static int judge(int n, int m) {
        if (isOutOfRange(n) || isOutOfRange(m)) {
            return OUT_OF_RANGE;
        }
        if (m == 0) {
            return ZERO_MODULUS;
        }
        if (n > m) {
            return ABOVE_ONE;
        }
        return ACCEPTED;
    }

    private static boolean isOutOfRange(int value) {
        return value < 0 || value > LARGEST;
    }
}
