/** Promise 3: one input clock. */
public final class TickTest {
    private static final Check CHECK = new Check();

    public static void main(String[] args) {
        examplesOfTheDocument();
        equalityIsAPulse();
        numeratorZeroNeverPulses();
        numeratorEqualToModulusAlwaysPulses();
        everySmallRatioGivesItsPulses();
        largeRatiosGiveTheirPulses();
        tickKeepsTheRatio();
        refusedRatioDoesNotDisturbTheRound();
        CHECK.finish();
    }

    private static FracDivider with(int n, int m) {
        FracDivider x = new FracDivider();
        CHECK.due("setRatio(" + n + ", " + m + ")", x.setRatio(n, m), 0);
        return x;
    }

    private static void examplesOfTheDocument() {
        CHECK.ticks("2/5", with(2, 5), new int[] {0, 0, 1, 0, 1}, new int[] {2, 4, 1, 3, 0});
        CHECK.ticks("65534/65535", with(65534, 65535), new int[] {0, 1, 1}, new int[] {65534, 65533, 65532});
    }

    private static void equalityIsAPulse() {
        CHECK.ticks("1/2", with(1, 2), new int[] {0, 1, 0, 1}, new int[] {1, 0, 1, 0});
        CHECK.ticks("1/1", with(1, 1), new int[] {1, 1}, new int[] {0, 0});
        CHECK.ticks("32767/65534", with(32767, 65534), new int[] {0, 1, 0, 1}, new int[] {32767, 0, 32767, 0});
    }

    private static void numeratorZeroNeverPulses() {
        int[] moduli = {1, 2, 5, 32767, 32768, 65534, 65535};
        for (int m : moduli) {
            FracDivider x = with(0, m);
            for (int i = 1; i <= 1000; i++) {
                CHECK.due("0/" + m + ", tick " + i, x.tick(), 0);
                CHECK.due("0/" + m + ", phase after tick " + i, x.phase(), 0);
            }
        }
    }

    private static void numeratorEqualToModulusAlwaysPulses() {
        int[] moduli = {1, 2, 5, 32767, 32768, 65534, 65535};
        for (int m : moduli) {
            FracDivider x = with(m, m);
            for (int i = 1; i <= 1000; i++) {
                CHECK.due(m + "/" + m + ", tick " + i, x.tick(), 1);
                CHECK.due(m + "/" + m + ", phase after tick " + i, x.phase(), 0);
            }
        }
    }

    private static void everySmallRatioGivesItsPulses() {
        for (int m = 1; m <= 40; m++) {
            for (int n = 0; n <= m; n++) {
                CHECK.follows(n + "/" + m, with(n, m), n, m, 0, 2 * m + 1);
                oneRound(with(n, m), n, m);
            }
        }
    }

    private static void largeRatiosGiveTheirPulses() {
        int[] moduli = {32767, 32768, 32769, 40000, 65534, 65535};
        for (int m : moduli) {
            int[] numerators = {1, 2, m / 3, m / 2, m / 2 + 1, m - 2, m - 1, m};
            for (int n : numerators) {
                CHECK.follows(n + "/" + m, with(n, m), n, m, 0, m + 100);
                oneRound(with(n, m), n, m);
            }
        }
    }

    private static void oneRound(FracDivider x, int n, int m) {
        int pulses = 0;
        for (int i = 0; i < m; i++) {
            pulses += x.tick();
        }
        CHECK.due(n + "/" + m + ", pulses of a round", pulses, n);
        CHECK.due(n + "/" + m + ", phase after a round", x.phase(), 0);
    }

    private static void tickKeepsTheRatio() {
        FracDivider x = with(7, 19);
        for (int round = 0; round < 10000; round++) {
            oneRound(x, 7, 19);
        }
    }

    private static void refusedRatioDoesNotDisturbTheRound() {
        FracDivider x = with(3, 7);
        int pulses = 0;
        for (int i = 0; i < 7; i++) {
            CHECK.due("setRatio(9, 8) within a round", x.setRatio(9, 8), -3);
            pulses += x.tick();
            CHECK.due("setRatio(-1, 8) within a round", x.setRatio(-1, 8), -1);
            CHECK.due("setRatio(1, 0) within a round", x.setRatio(1, 0), -2);
        }
        CHECK.due("pulses of a round with refused ratios", pulses, 3);
        CHECK.due("phase after a round with refused ratios", x.phase(), 0);
    }
}
