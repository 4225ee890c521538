import java.lang.reflect.Constructor;
import java.lang.reflect.Field;
import java.lang.reflect.Method;
import java.lang.reflect.Modifier;
import java.util.Set;
import java.util.TreeSet;

/** What the document says of the class as a whole: its members and its state. */
public final class PublicFaceTest {
    private static final Check CHECK = new Check();

    public static void main(String[] args) {
        membersAreTheOnesOfTheDocument();
        stateIsThreeChars();
        CHECK.finish();
    }

    private static void membersAreTheOnesOfTheDocument() {
        Set<String> seen = new TreeSet<>();
        for (Constructor<?> c : FracDivider.class.getDeclaredConstructors()) {
            addUnlessPrivate(seen, c.getModifiers(), c.toString());
        }
        for (Method m : FracDivider.class.getDeclaredMethods()) {
            addUnlessPrivate(seen, m.getModifiers(), m.toString());
        }
        for (Field f : FracDivider.class.getDeclaredFields()) {
            addUnlessPrivate(seen, f.getModifiers(), f.toString());
        }
        Set<String> due = new TreeSet<>(Set.of(
            "public FracDivider()",
            "public int FracDivider.setRatio(int,int)",
            "public int FracDivider.tick()",
            "public int FracDivider.phase()"));
        CHECK.holds("members are " + seen + ", due are " + due, seen.equals(due));

        int modifiers = FracDivider.class.getModifiers();
        CHECK.holds("the class is public and final", Modifier.isPublic(modifiers) && Modifier.isFinal(modifiers));
        CHECK.holds("the class extends nothing", FracDivider.class.getSuperclass() == Object.class);
        CHECK.holds("the class implements nothing", FracDivider.class.getInterfaces().length == 0);
        CHECK.holds("the class has no nested class", FracDivider.class.getDeclaredClasses().length == 0);
    }

    private static void stateIsThreeChars() {
        int chars = 0;
        for (Field f : FracDivider.class.getDeclaredFields()) {
            if (Modifier.isStatic(f.getModifiers())) {
                boolean number = f.getType() == int.class || f.getType() == long.class;
                CHECK.holds(f + " is a constant of int or long", number && Modifier.isFinal(f.getModifiers()));
            } else {
                CHECK.holds(f + " is a char", f.getType() == char.class);
                chars++;
            }
        }
        CHECK.due("fields of the state", chars, 3);
    }

    private static void addUnlessPrivate(Set<String> seen, int modifiers, String member) {
        if (!Modifier.isPrivate(modifiers)) {
            seen.add(member);
        }
    }
}
