import java.lang.reflect.Constructor;
import java.lang.reflect.Field;
import java.lang.reflect.Member;
import java.lang.reflect.Method;
import java.lang.reflect.Modifier;
import java.util.Set;
import java.util.TreeSet;

/** The class shows the document's public face and nothing else. */
public final class FaceTest {
    private static final Set<String> FACE = Set.of(
        "public static final int BAD_VERTEX",
        "public static final int BAD_NUMBER",
        "public static final int MAY",
        "public static final int MUST",
        "public static final int NEVER",
        "public TreeCounter(int)",
        "public int edges(int,int,int)",
        "public int mode(int,int,int)",
        "public int trees()",
        "public int using(int,int)",
        "public int leaf(int)",
        "public int degrees(int)",
        "public int apart(int,int)",
        "public int idle()",
        "public int needed()");

    public static void main(String[] args) {
        Set<String> seen = new TreeSet<>();
        for (Field field : TreeCounter.class.getDeclaredFields()) {
            note(seen, field, field.toString());
        }
        for (Method method : TreeCounter.class.getDeclaredMethods()) {
            note(seen, method, method.toString());
        }
        for (Constructor<?> constructor : TreeCounter.class.getDeclaredConstructors()) {
            note(seen, constructor, constructor.toString());
        }
        int modifiers = TreeCounter.class.getModifiers();
        boolean right = seen.equals(FACE)
            && Modifier.isPublic(modifiers)
            && Modifier.isFinal(modifiers)
            && TreeCounter.class.getDeclaredClasses().length == 0;
        System.out.println(right ? "the face is as due" : "the face is " + seen + ", due is " + FACE);
        if (!right) {
            System.exit(1);
        }
    }

    private static void note(Set<String> seen, Member member, String text) {
        if (!Modifier.isPrivate(member.getModifiers())) {
            seen.add(text.replace("TreeCounter.", ""));
        }
    }
}
