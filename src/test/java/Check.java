/** Counts and prints the answers that are not the ones due. */
final class Check {
    private int wrong = 0;

    void due(String what, long got, long want) {
        if (got != want) {
            wrong++;
            System.out.println(what + ": answered " + got + ", due is " + want);
        }
    }

    void holds(String what, boolean holds) {
        if (!holds) {
            wrong++;
            System.out.println(what + ": does not hold");
        }
    }

    void state(String what, FracDivider x, int n, int m, int r) {
        State state = State.of(x);
        boolean asDue = state.n == n && state.m == m && state.r == r;
        holds(what + ": the state " + state + " is " + new State(n, m, r), asDue);
    }

    /** The answers of the ticks, each with the remainder after it. */
    void ticks(String what, FracDivider x, int[] answers, int[] remainders) {
        for (int i = 0; i < answers.length; i++) {
            due(what + ", tick " + (i + 1), x.tick(), answers[i]);
            due(what + ", phase after tick " + (i + 1), x.phase(), remainders[i]);
        }
    }

    /**
     * Ticks that must follow the ratio n / m from the remainder start. What is
     * due comes from the closed form, not from the steps that the class takes:
     * after k ticks, start + k * n is pulses * m + remainder.
     */
    void follows(String what, FracDivider x, int n, int m, int start, int count) {
        for (int k = 1; k <= count; k++) {
            long before = start + (k - 1L) * n;
            long after = before + n;
            due(what + ", tick " + k, x.tick(), after / m - before / m);
            due(what + ", phase after tick " + k, x.phase(), after % m);
        }
    }

    void finish() {
        System.out.println(wrong == 0 ? "all answers are as due" : wrong + " answers are not as due");
        if (wrong != 0) {
            System.exit(1);
        }
    }
}
