/** Promise 4: reading the remainder. */
public final class PhaseTest {
    private static final Check CHECK = new Check();

    public static void main(String[] args) {
        repeatedReadingsAgree();
        readingDoesNotDisturbTheTicks();
        largeRemaindersAreNotNegative();
        staysBelowTheModulus();
        isBelowTheModulusNowInForce();
        answersTheRemainderInEveryState();
        changesNothingInAnyState();
        CHECK.finish();
    }

    private static void read(String what, FracDivider x, int want, int times) {
        for (int i = 1; i <= times; i++) {
            CHECK.due(what + ", reading " + i, x.phase(), want);
        }
    }

    private static void repeatedReadingsAgree() {
        FracDivider x = new FracDivider();
        read("new", x, 0, 5);
        x.setRatio(3, 8);
        read("3/8 at the start", x, 0, 5);
        x.tick();
        read("3/8 after one tick", x, 3, 5);
        x.tick();
        read("3/8 after two ticks", x, 6, 5);
        x.setRatio(4, 0);
        read("3/8 after a refused ratio", x, 6, 5);
        x.tick();
        read("3/8 after three ticks", x, 1, 5);
        x.setRatio(5, 6);
        read("5/6 at the start", x, 0, 5);
    }

    // One object is read between its ticks and the other one is not.
    private static void readingDoesNotDisturbTheTicks() {
        FracDivider readOften = new FracDivider();
        FracDivider readLast = new FracDivider();
        readOften.setRatio(5, 13);
        readLast.setRatio(5, 13);
        for (int i = 1; i <= 100; i++) {
            for (int k = 0; k < i % 4; k++) {
                readOften.phase();
            }
            CHECK.due("5/13 read often, tick " + i, readOften.tick(), readLast.tick());
        }
        CHECK.due("5/13 read often, at the end", readOften.phase(), 500 % 13);
        CHECK.due("5/13 read last, at the end", readLast.phase(), 500 % 13);
    }

    private static void largeRemaindersAreNotNegative() {
        int[] remainders = {127, 128, 255, 256, 32767, 32768, 65533, 65534};
        for (int r : remainders) {
            FracDivider x = new FracDivider();
            x.setRatio(r, 65535);
            x.tick();
            read("remainder " + r, x, r, 2);
        }
    }

    private static void staysBelowTheModulus() {
        int[][] ratios = {{1, 1}, {0, 1}, {1, 2}, {2, 2}, {6, 7}, {32768, 32769}, {65535, 65535}, {65533, 65534}};
        for (int[] r : ratios) {
            FracDivider x = new FracDivider();
            x.setRatio(r[0], r[1]);
            for (int i = 1; i <= 1000; i++) {
                x.tick();
                int phase = x.phase();
                String what = r[0] + "/" + r[1] + ", phase " + phase + " in range after tick " + i;
                CHECK.holds(what, 0 <= phase && phase < r[1]);
            }
        }
    }

    // A remainder of the old modulus may be far above a new, smaller one; a
    // smaller modulus that is refused is not in force.
    private static void isBelowTheModulusNowInForce() {
        FracDivider x = new FracDivider();
        x.setRatio(60000, 65535);
        x.tick();
        read("60000/65535 after one tick", x, 60000, 2);
        x.setRatio(3, 2);
        read("60000/65535 after the refused ratio 3/2", x, 60000, 2);
        x.setRatio(1, 2);
        read("1/2 at the start", x, 0, 2);
        x.tick();
        read("1/2 after one tick", x, 1, 2);
        x.setRatio(1, 1);
        read("1/1 at the start", x, 0, 2);
        x.tick();
        read("1/1 after one tick", x, 0, 2);
    }

    private static void answersTheRemainderInEveryState() {
        for (State s : State.samples()) {
            CHECK.due(s + ", phase", s.object().phase(), s.r);
        }
    }

    private static void changesNothingInAnyState() {
        for (State s : State.samples()) {
            FracDivider x = s.object();
            read(s.toString(), x, s.r, 3);
            CHECK.state(s + ", after three readings", x, s.n, s.m, s.r);
        }
    }
}
