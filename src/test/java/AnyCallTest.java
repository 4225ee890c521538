import java.util.function.IntSupplier;

/**
 * No method ever throws, every call returns, and the values keep their bounds,
 * for any arguments and in any state.
 */
public final class AnyCallTest {
    private static final Check CHECK = new Check();

    private static final int[] ARGUMENTS = arguments();

    // A call that does not return is told by the time limit of .ci/run.
    public static void main(String[] args) {
        constructorReturns();
        setRatioReturnsForAnyArguments();
        everyMethodReturnsInAnyState();
        everyCallKeepsTheBoundsOfTheState();
        mixedCallsFollowTheDocument();
        CHECK.finish();
    }

    // Every power of two and its neighbours, on both sides of 0.
    private static int[] arguments() {
        int[] arguments = new int[6 * 32];
        for (int bit = 0; bit < 32; bit++) {
            int power = 1 << bit;
            int[] near = {power - 1, power, power + 1, -power - 1, -power, -power + 1};
            System.arraycopy(near, 0, arguments, near.length * bit, near.length);
        }
        return arguments;
    }

    private static void returns(String what, IntSupplier call) {
        try {
            call.getAsInt();
        } catch (Throwable thrown) {
            CHECK.holds(what + " threw " + thrown + ", no throw", false);
        }
    }

    private static void constructorReturns() {
        for (int i = 1; i <= 1000; i++) {
            returns("making object " + i, () -> new FracDivider().phase());
        }
    }

    private static void setRatioReturnsForAnyArguments() {
        FracDivider x = new FracDivider();
        for (int n : ARGUMENTS) {
            for (int m : ARGUMENTS) {
                returns("setRatio(" + n + ", " + m + ")", () -> x.setRatio(n, m));
                returns("tick after setRatio(" + n + ", " + m + ")", x::tick);
                returns("phase after setRatio(" + n + ", " + m + ")", x::phase);
            }
        }
    }

    private static void everyMethodReturnsInAnyState() {
        for (State s : State.samples()) {
            FracDivider x = s.object();
            returns(s + ", phase", x::phase);
            returns(s + ", tick", x::tick);
            for (int value : ARGUMENTS) {
                FracDivider y = s.object();
                returns(s + ", setRatio(" + value + ", " + s.m + ")", () -> y.setRatio(value, s.m));
                returns(s + ", setRatio(" + s.n + ", " + value + ")", () -> y.setRatio(s.n, value));
            }
        }
    }

    private static void everyCallKeepsTheBoundsOfTheState() {
        keepsTheBounds("a new object", new FracDivider());
        for (State s : State.samples()) {
            FracDivider x = s.object();
            x.phase();
            keepsTheBounds(s + ", after phase", x);
            x.tick();
            keepsTheBounds(s + ", after tick", x);
            for (int value : ARGUMENTS) {
                x = s.object();
                x.setRatio(value, s.m);
                keepsTheBounds(s + ", after setRatio(" + value + ", " + s.m + ")", x);
                x = s.object();
                x.setRatio(s.n, value);
                keepsTheBounds(s + ", after setRatio(" + s.n + ", " + value + ")", x);
            }
        }
    }

    private static void keepsTheBounds(String what, FracDivider x) {
        State s = State.of(x);
        CHECK.holds(what + ": the remainder is below the modulus in " + s, s.r < s.m);
        CHECK.holds(what + ": the numerator is not above the modulus in " + s, s.n <= s.m);
    }

    // A long fixed run of calls of all kinds, beside a model that is written
    // straight from the document in numbers too wide to wrap.
    private static void mixedCallsFollowTheDocument() {
        FracDivider x = new FracDivider();
        long numerator = 0;
        long modulus = 1;
        long remainder = 0;
        long seed = 1;
        for (int i = 1; i <= 300000; i++) {
            seed = seed * 6364136223846793005L + 1442695040888963407L;
            int kind = (int) (seed >>> 60);
            if (kind == 0) {
                // Of every width up to 17 bits, so that each of the four answers comes often.
                int n = (int) (seed >>> 20) >> (int) (15 + (seed >>> 55) % 17);
                int m = (int) (seed >>> 12) >>> (int) (15 + (seed >>> 50) % 17);
                boolean outside = n < 0 || n > 65535 || m < 0 || m > 65535;
                int want = outside ? -1 : m == 0 ? -2 : n > m ? -3 : 0;
                CHECK.due("mixed call " + i + ", setRatio(" + n + ", " + m + ")", x.setRatio(n, m), want);
                if (want == 0) {
                    numerator = n;
                    modulus = m;
                    remainder = 0;
                }
            } else if (kind < 4) {
                CHECK.due("mixed call " + i + ", phase", x.phase(), remainder);
            } else {
                long sum = remainder + numerator;
                CHECK.due("mixed call " + i + ", tick", x.tick(), sum >= modulus ? 1 : 0);
                remainder = sum >= modulus ? sum - modulus : sum;
            }
            CHECK.state("mixed call " + i, x, (int) numerator, (int) modulus, (int) remainder);
        }
    }
}
