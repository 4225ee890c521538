import java.util.function.Consumer;

/** Promise 1: a new object. */
public final class NewObjectTest {
    private static final Check CHECK = new Check();

    public static void main(String[] args) {
        stateIsZeroOverOne();
        startsWithoutPulses();
        staysSoAfterRefusedRatios();
        pulsesOnceARatioIsAccepted();
        objectsAreSeparate();
        noCallChangesAnotherObject();
        CHECK.finish();
    }

    // With numerator 0 no call shows the modulus, so the state is looked at.
    private static void stateIsZeroOverOne() {
        CHECK.state("new", new FracDivider(), 0, 1, 0);
    }

    private static void startsWithoutPulses() {
        FracDivider x = new FracDivider();
        CHECK.due("new, phase", x.phase(), 0);
        idle("new", x, 70000);
    }

    // "As long as no call of setRatio has been accepted": a refused one does not end it.
    private static void staysSoAfterRefusedRatios() {
        int[][] refused = {{-1, 5}, {65536, 65536}, {1, 65536}, {65537, 65538}, {0, 0}, {3, 0}, {3, 2}, {65535, 65534}};
        FracDivider x = new FracDivider();
        for (int[] r : refused) {
            String what = "new, after a refused ratio " + r[0] + "/" + r[1];
            CHECK.holds(what + ", refused", x.setRatio(r[0], r[1]) < 0);
            CHECK.due(what + ", phase", x.phase(), 0);
            idle(what, x, 10);
            CHECK.state(what, x, 0, 1, 0);
        }
    }

    private static void pulsesOnceARatioIsAccepted() {
        FracDivider x = new FracDivider();
        idle("new, before its first ratio", x, 10);
        CHECK.due("the first ratio", x.setRatio(1, 1), 0);
        CHECK.ticks("after the first ratio", x, new int[] {1, 1}, new int[] {0, 0});
    }

    private static void objectsAreSeparate() {
        FracDivider a = new FracDivider();
        FracDivider b = new FracDivider();
        a.setRatio(2, 5);
        CHECK.due("a's tick", a.tick(), 0);
        CHECK.due("b's phase after a's tick", b.phase(), 0);
        idle("b beside a", b, 10);
        b.setRatio(3, 4);
        CHECK.due("a's phase after b's ratio", a.phase(), 2);
        CHECK.due("b's tick", b.tick(), 0);
        FracDivider c = new FracDivider();
        idle("c, made late", c, 10);
        CHECK.ticks("a beside b and c", a, new int[] {0, 1, 0, 1}, new int[] {4, 1, 3, 0});
        CHECK.ticks("b beside a and c", b, new int[] {1, 1, 1}, new int[] {2, 1, 0});
        CHECK.due("c's phase at the end", c.phase(), 0);
    }

    // Each kind of call by itself, between an older object and a younger one.
    private static void noCallChangesAnotherObject() {
        leavesOthersAlone("an accepted ratio", x -> x.setRatio(5, 9));
        leavesOthersAlone("the ratio of the others", x -> x.setRatio(3, 8));
        leavesOthersAlone("a ratio refused with -1", x -> x.setRatio(65536, 5));
        leavesOthersAlone("a ratio refused with -2", x -> x.setRatio(5, 0));
        leavesOthersAlone("a ratio refused with -3", x -> x.setRatio(6, 5));
        leavesOthersAlone("a tick without a pulse", x -> x.tick());
        leavesOthersAlone("ticks with pulses", x -> { x.tick(); x.tick(); x.tick(); });
        leavesOthersAlone("phase", x -> x.phase());
        leavesOthersAlone("making a new object", x -> new FracDivider());
    }

    private static void leavesOthersAlone(String what, Consumer<FracDivider> calls) {
        FracDivider untouched = new FracDivider();
        FracDivider older = twoTicksInto(3, 8);
        FracDivider called = twoTicksInto(2, 5);
        FracDivider younger = twoTicksInto(3, 8);
        calls.accept(called);
        CHECK.state(what + ", an untouched object", untouched, 0, 1, 0);
        CHECK.state(what + ", the older object", older, 3, 8, 6);
        CHECK.state(what + ", the younger object", younger, 3, 8, 6);
        CHECK.follows(what + ", the older object", older, 3, 8, 6, 8);
        CHECK.follows(what + ", the younger object", younger, 3, 8, 6, 8);
    }

    private static FracDivider twoTicksInto(int n, int m) {
        FracDivider x = new FracDivider();
        x.setRatio(n, m);
        x.tick();
        x.tick();
        return x;
    }

    private static void idle(String what, FracDivider x, int count) {
        for (int i = 1; i <= count; i++) {
            CHECK.due(what + ", tick " + i, x.tick(), 0);
            CHECK.due(what + ", phase after tick " + i, x.phase(), 0);
        }
    }
}
