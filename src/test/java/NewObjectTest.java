import java.lang.reflect.Field;
import java.lang.reflect.Modifier;
import java.util.Arrays;

/** Promise 1: a new object. */
public final class NewObjectTest {
    private static final Check CHECK = new Check();

    public static void main(String[] args) throws IllegalAccessException {
        stateIsZeroOverOne();
        startsWithoutPulses();
        staysSoAfterRefusedRatios();
        objectsAreSeparate();
        CHECK.finish();
    }

    // With numerator 0 no call shows the modulus, so the fields are looked at.
    // Their names are free, so only their values are: 0, 0 and 1 in any order;
    // which of them is the 1 follows from the ticks and the phase.
    private static void stateIsZeroOverOne() throws IllegalAccessException {
        FracDivider x = new FracDivider();
        Field[] state = Arrays.stream(FracDivider.class.getDeclaredFields())
            .filter(f -> !Modifier.isStatic(f.getModifiers()))
            .toArray(Field[]::new);
        int[] values = new int[state.length];
        for (int i = 0; i < state.length; i++) {
            state[i].setAccessible(true);
            values[i] = state[i].getInt(x);
        }
        Arrays.sort(values);
        boolean asDue = Arrays.equals(values, new int[] {0, 0, 1});
        CHECK.due("new, fields " + Arrays.toString(values) + " are 0, 0 and 1", asDue ? 1 : 0, 1);
    }

    private static void startsWithoutPulses() {
        FracDivider x = new FracDivider();
        CHECK.due("new, phase", x.phase(), 0);
        idle("new", x, 70000);
    }

    private static void staysSoAfterRefusedRatios() {
        int[][] refused = {{-1, 5}, {65536, 65536}, {1, 65536}, {65537, 65538}, {0, 0}, {3, 0}, {3, 2}, {65535, 65534}};
        FracDivider x = new FracDivider();
        for (int[] r : refused) {
            x.setRatio(r[0], r[1]);
            CHECK.due("new, phase after a refused ratio " + r[0] + "/" + r[1], x.phase(), 0);
            idle("new, after a refused ratio " + r[0] + "/" + r[1], x, 10);
        }
    }

    private static void objectsAreSeparate() {
        FracDivider a = new FracDivider();
        FracDivider b = new FracDivider();
        a.setRatio(2, 5);
        CHECK.due("a's tick", a.tick(), 0);
        CHECK.due("b's phase after a's tick", b.phase(), 0);
        idle("b beside a", b, 10);
        b.setRatio(3, 4);
        CHECK.due("a's phase after b's ratio", a.phase(), 2);
        CHECK.due("b's tick", b.tick(), 0);
        FracDivider c = new FracDivider();
        idle("c, made late", c, 10);
        CHECK.ticks("a beside b and c", a, new int[] {0, 1, 0, 1}, new int[] {4, 1, 3, 0});
        CHECK.ticks("b beside a and c", b, new int[] {1, 1, 1}, new int[] {2, 1, 0});
        CHECK.due("c's phase at the end", c.phase(), 0);
    }

    private static void idle(String what, FracDivider x, int count) {
        for (int i = 1; i <= count; i++) {
            CHECK.due(what + ", tick " + i, x.tick(), 0);
            CHECK.due(what + ", phase after tick " + i, x.phase(), 0);
        }
    }
}
