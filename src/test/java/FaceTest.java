import java.lang.reflect.Constructor;
import java.lang.reflect.Field;
import java.lang.reflect.Method;
import java.lang.reflect.Modifier;
import java.util.Arrays;
import java.util.Set;
import java.util.TreeSet;

// The public face of the document, whole, and nothing beside it that can be seen from outside.
public final class FaceTest {
    public static void main(String[] args) {
        Set<String> due = new TreeSet<>(Arrays.asList(
            "public static final int BAD",
            "public static final int FULL",
            "public static final int UNSOUND",
            "public []",
            "public boolean step [int, int, boolean]",
            "public boolean mark [int, int]",
            "public int token [int]",
            "public int wipe []",
            "public int turn []",
            "public boolean sound []",
            "public boolean holds [int]",
            "public int set []",
            "public int depth []",
            "public int steps [int]"));
        Set<String> seen = new TreeSet<>();
        for (Field f : ModalJudge.class.getDeclaredFields()) {
            if (!Modifier.isPrivate(f.getModifiers())) {
                seen.add(Modifier.toString(f.getModifiers()) + " " + f.getType() + " " + f.getName());
            }
        }
        for (Constructor<?> c : ModalJudge.class.getDeclaredConstructors()) {
            seen.add(Modifier.toString(c.getModifiers()) + " " + Arrays.toString(c.getParameterTypes()));
        }
        for (Method m : ModalJudge.class.getDeclaredMethods()) {
            if (!Modifier.isPrivate(m.getModifiers())) {
                seen.add(Modifier.toString(m.getModifiers()) + " " + m.getReturnType() + " " + m.getName()
                    + " " + Arrays.toString(m.getParameterTypes()));
            }
        }
        int wrong = 0;
        if (!seen.equals(due)) {
            wrong++;
            System.out.println("the face is " + seen + ", due is " + due);
        }
        int modifiers = ModalJudge.class.getModifiers();
        if (modifiers != (Modifier.PUBLIC | Modifier.FINAL)) {
            wrong++;
            System.out.println("the class is " + Modifier.toString(modifiers) + ", due is public final");
        }
        if (ModalJudge.BAD != -1 || ModalJudge.FULL != -2 || ModalJudge.UNSOUND != -3) {
            wrong++;
            System.out.println("a constant is not as due");
        }
        System.out.println(wrong == 0 ? "all answers are as due" : wrong + " answers are not as due");
        if (wrong != 0) {
            System.exit(1);
        }
    }
}
