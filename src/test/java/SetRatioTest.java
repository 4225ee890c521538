import java.util.List;

/** Promise 2: setting the ratio. */
public final class SetRatioTest {
    private static final Check CHECK = new Check();

    private static final List<State> STATES = State.samples();

    // Each row: n, m and the answer that is due.
    private static final int[][] TABLE_OF_THE_DOCUMENT = {
        {-1, 0, -1},
        {65536, 0, -1},
        {65536, 5, -1},
        {0, -1, -1},
        {0, 65536, -1},
        {0, 0, -2},
        {5, 0, -2},
        {6, 5, -3},
        {65535, 65534, -3},
        {5, 5, 0},
        {0, 1, 0},
        {65535, 65535, 0},
    };

    private static final int[][] MORE_CALLS = {
        {-1, -1, -1}, {-1, 1, -1}, {-1, 65535, -1}, {1, -1, -1}, {65535, -1, -1}, {65535, 65536, -1},
        {65536, 65535, -1}, {65536, 65536, -1}, {65537, 65538, -1}, {2, 65541, -1}, {-65534, 5, -1}, {2, -65531, -1},
        {-65536, 1, -1}, {0, -65536, -1}, {0, -65535, -1}, {131072, 1, -1}, {0, 131073, -1},
        {Integer.MIN_VALUE, Integer.MIN_VALUE, -1}, {Integer.MIN_VALUE, 0, -1}, {Integer.MIN_VALUE, 5, -1},
        {Integer.MIN_VALUE, Integer.MAX_VALUE, -1}, {Integer.MAX_VALUE, Integer.MIN_VALUE, -1},
        {Integer.MAX_VALUE, Integer.MAX_VALUE, -1}, {Integer.MAX_VALUE, 0, -1}, {Integer.MAX_VALUE, 5, -1},
        {0, Integer.MIN_VALUE, -1}, {5, Integer.MIN_VALUE, -1}, {0, Integer.MAX_VALUE, -1}, {5, Integer.MAX_VALUE, -1},
        {1, 0, -2}, {65535, 0, -2}, {32768, 0, -2},
        {2, 1, -3}, {65535, 1, -3}, {32768, 32767, -3}, {65535, 32768, -3},
        {1, 1, 0}, {1, 2, 0}, {2, 5, 0}, {0, 65535, 0}, {1, 65535, 0}, {65534, 65535, 0}, {65534, 65534, 0},
        {32767, 32768, 0}, {32768, 32768, 0}, {32768, 65535, 0},
    };

    private static final int[][][] ALL_CALLS = {TABLE_OF_THE_DOCUMENT, MORE_CALLS};

    public static void main(String[] args) {
        rowsOfTheTable();
        for (int[][] calls : ALL_CALLS) {
            for (int[] c : calls) {
                answersOnANewObject(c);
                answersInTheMiddleOfARun(c);
                answerDependsOnlyOnTheArguments(c);
                refusedCallChangesNothing(c);
                acceptedCallSetsAllThreeValues(c);
            }
        }
        firstConditionThatHoldsDecides();
        answersAroundEveryBorder();
        valuesAreNeverReducedIntoTheRange();
        acceptedCallClearsTheRemainder();
        sameRatioAgainClearsTheRemainder();
        refusedCallsInARowChangeNothing();
        CHECK.finish();
    }

    private static String name(int n, int m) {
        return "setRatio(" + n + ", " + m + ")";
    }

    private static void rowsOfTheTable() {
        for (int[] row : TABLE_OF_THE_DOCUMENT) {
            FracDivider x = new FracDivider();
            CHECK.due("table of the document, " + name(row[0], row[1]), x.setRatio(row[0], row[1]), row[2]);
        }
    }

    private static void answersOnANewObject(int[] c) {
        FracDivider x = new FracDivider();
        CHECK.due(name(c[0], c[1]) + " on a new object", x.setRatio(c[0], c[1]), c[2]);
        CHECK.due("phase after " + name(c[0], c[1]) + " on a new object", x.phase(), 0);
        CHECK.follows("new, " + name(c[0], c[1]), x, c[2] == 0 ? c[0] : 0, c[2] == 0 ? c[1] : 1, 0, 12);
    }

    private static void answersInTheMiddleOfARun(int[] c) {
        FracDivider x = new FracDivider();
        CHECK.due(name(40000, 60000), x.setRatio(40000, 60000), 0);
        CHECK.due("the tick before " + name(c[0], c[1]), x.tick(), 0);
        CHECK.due(name(c[0], c[1]) + " in a run", x.setRatio(c[0], c[1]), c[2]);
        if (c[2] == 0) {
            CHECK.due("phase after " + name(c[0], c[1]), x.phase(), 0);
            CHECK.follows("in a run, " + name(c[0], c[1]), x, c[0], c[1], 0, 12);
        } else {
            CHECK.due("phase after the refused " + name(c[0], c[1]), x.phase(), 40000);
            CHECK.follows("in a run, " + name(c[0], c[1]), x, 40000, 60000, 40000, 12);
        }
    }

    private static void answerDependsOnlyOnTheArguments(int[] c) {
        for (State before : STATES) {
            CHECK.due(name(c[0], c[1]) + " in the state " + before, before.object().setRatio(c[0], c[1]), c[2]);
        }
    }

    private static void refusedCallChangesNothing(int[] c) {
        if (c[2] == 0) {
            return;
        }
        for (State before : STATES) {
            FracDivider x = before.object();
            x.setRatio(c[0], c[1]);
            CHECK.state("refused " + name(c[0], c[1]) + " in the state " + before, x, before.n, before.m, before.r);
        }
    }

    private static void acceptedCallSetsAllThreeValues(int[] c) {
        if (c[2] != 0) {
            return;
        }
        for (State before : STATES) {
            FracDivider x = before.object();
            x.setRatio(c[0], c[1]);
            CHECK.state("accepted " + name(c[0], c[1]) + " in the state " + before, x, c[0], c[1], 0);
        }
    }

    // Each row is named for the conditions, as the document numbers them, that hold for it.
    private static void firstConditionThatHoldsDecides() {
        decides("1 (n < 0)", -1, 5, -1);
        decides("1 (n > 65535)", 65536, 65536, -1);
        decides("1 (m < 0)", -2, -1, -1);
        decides("1 (m > 65535)", 5, 65536, -1);
        decides("1 (n < 0) and 2", -1, 0, -1);
        decides("1 (n < 0) and 3", -1, -2, -1);
        decides("1 (m < 0) and 3", 5, -1, -1);
        decides("1 (n > 65535) and 3", 65536, 65535, -1);
        decides("1 (n > 65535, m > 65535) and 3", 65537, 65536, -1);
        decides("1 (n > 65535), 2 and 3", 65536, 0, -1);
        decides("2", 0, 0, -2);
        decides("2 and 3", 1, 0, -2);
        decides("2 and 3, n at its largest", 65535, 0, -2);
        decides("3", 2, 1, -3);
        decides("3, n at its largest", 65535, 65534, -3);
        decides("none", 1, 1, 0);
    }

    private static void decides(String conditions, int n, int m, int want) {
        CHECK.due("conditions that hold: " + conditions + "; " + name(n, m), new FracDivider().setRatio(n, m), want);
    }

    private static void answersAroundEveryBorder() {
        int[] values = {Integer.MIN_VALUE, Integer.MIN_VALUE + 1, -65537, -65536, -65535, -32768, -2, -1, 0, 1, 2, 3,
            32766, 32767, 32768, 65533, 65534, 65535, 65536, 65537, 65538, 131071, 131072,
            Integer.MAX_VALUE - 1, Integer.MAX_VALUE};
        FracDivider x = new FracDivider();
        for (int n : values) {
            for (int m : values) {
                boolean outside = n < 0 || n > 65535 || m < 0 || m > 65535;
                int want = outside ? -1 : m == 0 ? -2 : n > m ? -3 : 0;
                CHECK.due(name(n, m), x.setRatio(n, m), want);
                CHECK.due(name(n, m) + " again", x.setRatio(n, m), want);
                x.tick();
            }
        }
    }

    // Cut to their low 16 bits, the arguments would be a ratio that is
    // accepted, or one that is refused for another reason.
    private static void valuesAreNeverReducedIntoTheRange() {
        int[][] cutDown = {{0, 1}, {2, 5}, {1, 1}, {0, 65535}, {32768, 65535}, {65535, 65535}, {0, 0}, {5, 0}, {6, 5}};
        int[] highBits = {1, 2, 3, 255, 256, 16384, 32766, 32767, -1, -2, -256, -16384, -32767, -32768};
        for (int[] low : cutDown) {
            for (int high : highBits) {
                int n = (high << 16) + low[0];
                int m = (high << 16) + low[1];
                isOutOfRange(n, low[1]);
                isOutOfRange(low[0], m);
                isOutOfRange(n, m);
            }
        }
    }

    private static void isOutOfRange(int n, int m) {
        FracDivider x = new FracDivider();
        x.setRatio(3, 8);
        x.tick();
        CHECK.due("never reduced, " + name(n, m), x.setRatio(n, m), -1);
        CHECK.state("never reduced, " + name(n, m), x, 3, 8, 3);
    }

    private static void acceptedCallClearsTheRemainder() {
        FracDivider x = new FracDivider();
        x.setRatio(2, 5);
        x.tick();
        x.tick();
        CHECK.due("phase before the same ratio", x.phase(), 4);
        CHECK.due("the same ratio", x.setRatio(2, 5), 0);
        CHECK.due("phase after the same ratio", x.phase(), 0);
        CHECK.ticks("after the same ratio", x, new int[] {0, 0, 1, 0, 1}, new int[] {2, 4, 1, 3, 0});
        x.tick();
        CHECK.due("the same numerator", x.setRatio(2, 3), 0);
        CHECK.due("phase after the same numerator", x.phase(), 0);
        CHECK.ticks("after the same numerator", x, new int[] {0, 1, 1}, new int[] {2, 1, 0});
        x.tick();
        CHECK.due("the same modulus", x.setRatio(1, 3), 0);
        CHECK.due("phase after the same modulus", x.phase(), 0);
        CHECK.ticks("after the same modulus", x, new int[] {0, 0, 1}, new int[] {1, 2, 0});
    }

    private static void sameRatioAgainClearsTheRemainder() {
        for (State before : STATES) {
            FracDivider x = before.object();
            CHECK.due("the same ratio in the state " + before, x.setRatio(before.n, before.m), 0);
            CHECK.state("the same ratio in the state " + before, x, before.n, before.m, 0);
        }
    }

    private static void refusedCallsInARowChangeNothing() {
        FracDivider x = new FracDivider();
        x.setRatio(3, 8);
        x.tick();
        x.tick();
        CHECK.due("refused -1", x.setRatio(65536, 65536), -1);
        CHECK.due("refused -2", x.setRatio(7, 0), -2);
        CHECK.due("refused -3", x.setRatio(8, 7), -3);
        CHECK.due("phase after three refusals", x.phase(), 6);
        CHECK.ticks("after three refusals", x, new int[] {1, 0, 0, 1, 0, 1}, new int[] {1, 4, 7, 2, 5, 0});
    }
}
