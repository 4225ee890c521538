import java.lang.reflect.Field;
import java.util.ArrayList;
import java.util.List;

/**
 * The numerator, modulus and remainder of an object, read and set past the
 * public face, which shows only the remainder and can't lead to every state
 * that the document describes (65535 / 65535 with the remainder 65534 is one).
 */
final class State {
    private static final FracDivider PROBE = probe();
    private static final Field NUMERATOR = fieldThatHolds(3);
    private static final Field MODULUS = fieldThatHolds(7);
    private static final Field REMAINDER = fieldThatHolds(6);

    final int n;
    final int m;
    final int r;

    State(int n, int m, int r) {
        this.n = n;
        this.m = m;
        this.r = r;
    }

    static State of(FracDivider x) {
        try {
            return new State(NUMERATOR.getInt(x), MODULUS.getInt(x), REMAINDER.getInt(x));
        } catch (IllegalAccessException e) {
            throw new IllegalStateException(e);
        }
    }

    /** A new object that has been put into this state. */
    FracDivider object() {
        FracDivider x = new FracDivider();
        try {
            NUMERATOR.setChar(x, (char) n);
            MODULUS.setChar(x, (char) m);
            REMAINDER.setChar(x, (char) r);
        } catch (IllegalAccessException e) {
            throw new IllegalStateException(e);
        }
        return x;
    }

    /** States from all over the range, each with numerator <= modulus and remainder < modulus. */
    static List<State> samples() {
        List<State> samples = new ArrayList<>();
        for (int m : new int[] {1, 2, 3, 5, 8, 127, 128, 255, 256, 257, 32767, 32768, 32769, 65534, 65535}) {
            for (int n : new int[] {0, 1, m / 2, m / 2 + 1, m - 1, m}) {
                for (int r : new int[] {0, 1, m / 2, m - 2, m - 1}) {
                    if (n <= m && 0 <= r && r < m) {
                        samples.add(new State(n, m, r));
                    }
                }
            }
        }
        return samples;
    }

    @Override
    public String toString() {
        return n + "/" + m + " at remainder " + r;
    }

    private static FracDivider probe() {
        FracDivider x = new FracDivider();
        x.setRatio(3, 7);
        x.tick();
        x.tick();
        return x;
    }

    // The document leaves the fields' names free, so a field is known by what
    // it holds in the probe, where the three values differ.
    private static Field fieldThatHolds(int value) {
        try {
            for (Field f : FracDivider.class.getDeclaredFields()) {
                f.setAccessible(true);
                if (f.getType() == char.class && f.getInt(PROBE) == value) {
                    return f;
                }
            }
        } catch (IllegalAccessException e) {
            throw new IllegalStateException(e);
        }
        throw new IllegalStateException("after setRatio(3, 7) and two ticks no char field holds " + value);
    }
}
