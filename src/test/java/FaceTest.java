import java.lang.reflect.Constructor;
import java.lang.reflect.Field;
import java.lang.reflect.Method;
import java.lang.reflect.Modifier;
import java.util.Set;
import java.util.TreeSet;

/** The class shows just the face of the document, and nothing else that is not private. */
public final class FaceTest {
    private static final Set<String> FACE = Set.of(
        "public static final int BAD_ARG",
        "public static final int ABSENT",
        "public NodeTableFiles()",
        "public int create(int)",
        "public int remove(int)",
        "public int write(int,int,int)",
        "public int truncate(int,int)",
        "public int copy(int,int)",
        "public int fsync(int)",
        "public int sync()",
        "public int crash()",
        "public boolean exists(int)",
        "public int size(int)",
        "public int read(int,int)",
        "public int unsafe()",
        "public int digest()");

    public static void main(String[] args) {
        Checks checks = new Checks("the face");
        Set<String> shown = shownMembers();
        for (String member : FACE) {
            checks.due("has " + member, shown.contains(member), true);
        }
        for (String member : shown) {
            checks.due("may have " + member, FACE.contains(member), true);
        }
        int modifiers = NodeTableFiles.class.getModifiers();
        checks.due("is public", Modifier.isPublic(modifiers), true);
        checks.due("is final", Modifier.isFinal(modifiers), true);
        checks.due("nested classes", NodeTableFiles.class.getDeclaredClasses().length, 0);
        checks.due("BAD_ARG", NodeTableFiles.BAD_ARG, -1);
        checks.due("ABSENT", NodeTableFiles.ABSENT, -3);
        checks.end();
    }

    private static Set<String> shownMembers() {
        Set<String> shown = new TreeSet<>();
        for (Field field : NodeTableFiles.class.getDeclaredFields()) {
            add(shown, field.getModifiers(), field.toString());
        }
        for (Constructor<?> made : NodeTableFiles.class.getDeclaredConstructors()) {
            add(shown, made.getModifiers(), made.toString());
        }
        for (Method method : NodeTableFiles.class.getDeclaredMethods()) {
            add(shown, method.getModifiers(), method.toString());
        }
        return shown;
    }

    private static void add(Set<String> shown, int modifiers, String text) {
        if (!Modifier.isPrivate(modifiers)) {
            shown.add(text.replace("NodeTableFiles.", ""));
        }
    }
}
