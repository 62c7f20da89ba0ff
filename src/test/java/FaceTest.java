import java.lang.reflect.Constructor;
import java.lang.reflect.Field;
import java.lang.reflect.Method;
import java.lang.reflect.Modifier;
import java.util.Set;
import java.util.TreeSet;

/** The public face: just the document's members are to be seen from outside, and the constants are right. */
public final class FaceTest {
    private static final Set<String> FACE = new TreeSet<>(Set.of(
            "public static final int SequencePatterns.BAD_ARG",
            "public static final int SequencePatterns.FULL",
            "public static final int SequencePatterns.NONE",
            "public SequencePatterns()",
            "public void SequencePatterns.begin()",
            "public int SequencePatterns.step(int,int,int)",
            "public int SequencePatterns.window(int)",
            "public int SequencePatterns.event(int,int,int)",
            "public void SequencePatterns.restart()",
            "public int SequencePatterns.events()",
            "public int SequencePatterns.finds()",
            "public int SequencePatterns.endingAt(int)",
            "public int SequencePatterns.beginningAt(int)",
            "public int SequencePatterns.using(int)",
            "public int SequencePatterns.longest()",
            "public int SequencePatterns.tightest()",
            "public int SequencePatterns.lastValues()",
            "public int SequencePatterns.without(int)"));

    public static void main(String[] args) {
        Set<String> seen = new TreeSet<>();
        for (Field f : SequencePatterns.class.getDeclaredFields()) {
            if (!Modifier.isPrivate(f.getModifiers())) {
                seen.add(f.toString());
            }
        }
        for (Constructor<?> c : SequencePatterns.class.getDeclaredConstructors()) {
            seen.add(c.toString());
        }
        for (Method m : SequencePatterns.class.getDeclaredMethods()) {
            if (!Modifier.isPrivate(m.getModifiers())) {
                seen.add(m.toString());
            }
        }
        Check.holds("the face is " + FACE + ", seen is " + seen, seen.equals(FACE));
        Check.holds("the class is public and final",
                SequencePatterns.class.getModifiers() == (Modifier.PUBLIC | Modifier.FINAL));
        Check.due("BAD_ARG", SequencePatterns.BAD_ARG, -1);
        Check.due("FULL", SequencePatterns.FULL, -2);
        Check.due("NONE", SequencePatterns.NONE, -4);
        Check.end();
    }
}
