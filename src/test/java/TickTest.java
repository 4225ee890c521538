/** Promise 3: one input clock. */
public final class TickTest {
    private static final Check CHECK = new Check();

    public static void main(String[] args) {
        exampleOfTheDocument();
        exampleWithLargeValues();
        sumIsNeverCut();
        equalityIsAPulse();
        subtractsTheModulusAtMostOnce();
        keepsNumeratorAndModulus();
        numeratorZeroNeverPulses();
        numeratorEqualToModulusAlwaysPulses();
        everySmallRatioGivesItsPulses();
        largeRatiosGiveTheirPulses();
        tickKeepsTheRatio();
        refusedRatioDoesNotDisturbTheRound();
        acceptedRatioStartsANewRound();
        CHECK.finish();
    }

    private static FracDivider with(int n, int m) {
        FracDivider x = new FracDivider();
        CHECK.due("setRatio(" + n + ", " + m + ")", x.setRatio(n, m), 0);
        return x;
    }

    private static void exampleOfTheDocument() {
        CHECK.ticks("2/5", with(2, 5), new int[] {0, 0, 1, 0, 1}, new int[] {2, 4, 1, 3, 0});
    }

    private static void exampleWithLargeValues() {
        CHECK.ticks("65534/65535", with(65534, 65535), new int[] {0, 1, 1}, new int[] {65534, 65533, 65532});
    }

    // Sums on both sides of what a short, a char and 17 bits can hold. The
    // greatest one, 131069, comes from a state that no run of calls leads to.
    private static void sumIsNeverCut() {
        oneTick(new State(16384, 65535, 16383), 0, 32767);
        oneTick(new State(16384, 65535, 16384), 0, 32768);
        oneTick(new State(32768, 65535, 32766), 0, 65534);
        oneTick(new State(32768, 65535, 32767), 1, 0);
        oneTick(new State(32768, 65535, 32768), 1, 1);
        oneTick(new State(32768, 65535, 32769), 1, 2);
        oneTick(new State(65534, 65535, 2), 1, 1);
        oneTick(new State(65535, 65535, 1), 1, 1);
        oneTick(new State(65534, 65534, 65533), 1, 65533);
        oneTick(new State(65534, 65535, 65534), 1, 65533);
        oneTick(new State(65535, 65535, 65534), 1, 65534);
        CHECK.ticks("32768/65535", with(32768, 65535), new int[] {0, 1, 0, 1}, new int[] {32768, 1, 32769, 2});
        CHECK.ticks("40000/60000", with(40000, 60000), new int[] {0, 1, 1}, new int[] {40000, 20000, 0});
    }

    private static void oneTick(State before, int answer, int remainder) {
        FracDivider x = before.object();
        CHECK.due(before + ", tick", x.tick(), answer);
        CHECK.state(before + ", after its tick", x, before.n, before.m, remainder);
    }

    private static void equalityIsAPulse() {
        for (State s : State.samples()) {
            if (s.n > 0) {
                oneTick(new State(s.n, s.m, s.m - s.n), 1, 0);
            }
        }
        CHECK.ticks("1/2", with(1, 2), new int[] {0, 1, 0, 1}, new int[] {1, 0, 1, 0});
        CHECK.ticks("1/1", with(1, 1), new int[] {1, 1}, new int[] {0, 0});
        CHECK.ticks("32767/65534", with(32767, 65534), new int[] {0, 1, 0, 1}, new int[] {32767, 0, 32767, 0});
    }

    private static void subtractsTheModulusAtMostOnce() {
        for (State s : State.samples()) {
            subtractsAtMostOnce(s);
        }
        for (int m = 1; m <= 20; m++) {
            for (int n = 0; n <= m; n++) {
                for (int r = 0; r < m; r++) {
                    subtractsAtMostOnce(new State(n, m, r));
                }
            }
        }
    }

    private static void subtractsAtMostOnce(State before) {
        FracDivider x = before.object();
        int pulse = x.tick();
        int remainder = x.phase();
        CHECK.holds(before + ", tick answered " + pulse + ", which is 0 or 1", pulse == 0 || pulse == 1);
        CHECK.due(before + ", sum after the tick", remainder + pulse * before.m, before.r + before.n);
        CHECK.holds(before + ", remainder " + remainder + " below the modulus", 0 <= remainder && remainder < before.m);
    }

    private static void keepsNumeratorAndModulus() {
        for (State before : State.samples()) {
            FracDivider x = before.object();
            for (int i = 1; i <= 5; i++) {
                x.tick();
                State after = State.of(x);
                CHECK.due(before + ", numerator after tick " + i, after.n, before.n);
                CHECK.due(before + ", modulus after tick " + i, after.m, before.m);
            }
        }
    }

    private static void numeratorZeroNeverPulses() {
        int[] moduli = {1, 2, 5, 32767, 32768, 65534, 65535};
        for (int m : moduli) {
            FracDivider x = with(0, m);
            for (int i = 1; i <= 1000; i++) {
                CHECK.due("0/" + m + ", tick " + i, x.tick(), 0);
                CHECK.due("0/" + m + ", phase after tick " + i, x.phase(), 0);
            }
        }
    }

    private static void numeratorEqualToModulusAlwaysPulses() {
        int[] moduli = {1, 2, 5, 32767, 32768, 65534, 65535};
        for (int m : moduli) {
            FracDivider x = with(m, m);
            for (int i = 1; i <= 1000; i++) {
                CHECK.due(m + "/" + m + ", tick " + i, x.tick(), 1);
                CHECK.due(m + "/" + m + ", phase after tick " + i, x.phase(), 0);
            }
        }
    }

    private static void everySmallRatioGivesItsPulses() {
        for (int m = 1; m <= 40; m++) {
            for (int n = 0; n <= m; n++) {
                CHECK.follows(n + "/" + m, with(n, m), n, m, 0, 2 * m + 1);
                oneRound(with(n, m), n, m);
            }
        }
    }

    private static void largeRatiosGiveTheirPulses() {
        int[] moduli = {32767, 32768, 32769, 40000, 65534, 65535};
        for (int m : moduli) {
            int[] numerators = {1, 2, m / 3, m / 2, m / 2 + 1, m - 2, m - 1, m};
            for (int n : numerators) {
                CHECK.follows(n + "/" + m, with(n, m), n, m, 0, m + 100);
                oneRound(with(n, m), n, m);
            }
        }
    }

    private static void oneRound(FracDivider x, int n, int m) {
        int pulses = 0;
        for (int i = 0; i < m; i++) {
            pulses += x.tick();
        }
        CHECK.due(n + "/" + m + ", pulses of a round", pulses, n);
        CHECK.due(n + "/" + m + ", phase after a round", x.phase(), 0);
    }

    private static void tickKeepsTheRatio() {
        FracDivider x = with(7, 19);
        for (int round = 0; round < 10000; round++) {
            oneRound(x, 7, 19);
        }
    }

    private static void refusedRatioDoesNotDisturbTheRound() {
        FracDivider x = with(3, 7);
        int pulses = 0;
        for (int i = 0; i < 7; i++) {
            CHECK.due("setRatio(9, 8) within a round", x.setRatio(9, 8), -3);
            pulses += x.tick();
            CHECK.due("setRatio(-1, 8) within a round", x.setRatio(-1, 8), -1);
            CHECK.due("setRatio(1, 0) within a round", x.setRatio(1, 0), -2);
        }
        CHECK.due("pulses of a round with refused ratios", pulses, 3);
        CHECK.due("phase after a round with refused ratios", x.phase(), 0);
    }

    // The old round, broken off, leaves nothing behind in the new one.
    private static void acceptedRatioStartsANewRound() {
        FracDivider x = with(3, 7);
        for (int broken = 0; broken < 7; broken++) {
            CHECK.due("setRatio(3, 7) once more", x.setRatio(3, 7), 0);
            CHECK.follows("3/7, to be broken off", x, 3, 7, 0, broken);
            CHECK.due("setRatio(4, 9) within a round", x.setRatio(4, 9), 0);
            oneRound(x, 4, 9);
        }
    }
}
