import java.lang.reflect.Constructor;
import java.lang.reflect.Field;
import java.lang.reflect.Method;
import java.lang.reflect.Modifier;
import java.util.Set;
import java.util.TreeSet;

/** The public members of the class are those of the document, and all others are private. */
public final class FaceTest {
    private static final String[] DUE = {
        "public static final int BAD_ARG = -1", "public static final int FULL = -2",
        "public static final int NONE = -3", "public EditedText()",
        "public int insert(int,int)", "public int append(int,int,int,int)", "public int remove(int,int)",
        "public int rename(int,int)", "public void clear()", "public int length()", "public int character(int)",
        "public int tokens()", "public int kind(int)", "public int start(int)", "public int tokenAt(int)",
        "public int items()", "public int sort(int)", "public int itemOf(int)", "public int depth(int)",
        "public boolean known(int)", "public int value(int)", "public int meaning(int)", "public int uses(int)",
        "public int loose()", "public int wrong()", "public int digest()",
    };

    public static void main(String[] args) throws IllegalAccessException {
        Set<String> due = new TreeSet<>(Set.of(DUE));
        Set<String> found = new TreeSet<>();
        addFields(found);
        for (Constructor<?> c : EditedText.class.getDeclaredConstructors()) {
            found.add(c.toString());
        }
        addMethods(found);
        boolean right = found.equals(due);
        if (!right) {
            System.out.println("due:   " + due);
            System.out.println("found: " + found);
        }
        if (EditedText.class.getModifiers() != (Modifier.PUBLIC | Modifier.FINAL)) {
            right = false;
            System.out.println("the class is not public and final alone");
        }
        System.out.println(right ? "the face is as due" : "the face is not as due");
        if (!right) {
            System.exit(1);
        }
    }

    private static void addFields(Set<String> found) throws IllegalAccessException {
        for (Field f : EditedText.class.getDeclaredFields()) {
            if (!Modifier.isPrivate(f.getModifiers())) {
                String value = Modifier.isStatic(f.getModifiers()) ? " = " + f.get(null) : "";
                found.add(f.toString().replace("EditedText.", "") + value);
            }
        }
    }

    /** A private method that bears a public one's name is ruled out, so it is told as well. */
    private static void addMethods(Set<String> found) {
        Set<String> open = new TreeSet<>();
        for (Method m : EditedText.class.getDeclaredMethods()) {
            if (!Modifier.isPrivate(m.getModifiers())) {
                found.add(m.toString().replace("EditedText.", ""));
                open.add(m.getName());
            }
        }
        for (Method m : EditedText.class.getDeclaredMethods()) {
            if (Modifier.isPrivate(m.getModifiers()) && open.contains(m.getName())) {
                found.add(m.toString());
            }
        }
    }
}
