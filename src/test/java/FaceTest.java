import java.lang.reflect.Constructor;
import java.lang.reflect.Field;
import java.lang.reflect.Method;
import java.lang.reflect.Modifier;
import java.util.Set;
import java.util.TreeSet;

/** The class has just the document's face: its members, and none other that is not private. */
public final class FaceTest {
    private static final Set<String> FACE = Set.of(
        "public LevelForests()",
        "public static final int LevelForests.BAD",
        "public static final int LevelForests.FULL",
        "public int LevelForests.link(int,int)",
        "public int LevelForests.cut(int,int)",
        "public boolean LevelForests.connected(int,int)",
        "public int LevelForests.part(int)",
        "public int LevelForests.parts()",
        "public boolean LevelForests.isEdge(int,int)",
        "public boolean LevelForests.isBridge(int,int)",
        "public int LevelForests.edges()",
        "public int LevelForests.spare()",
        "public int LevelForests.isolate(int)",
        "public int LevelForests.greatest()");

    public static void main(String[] args) {
        Set<String> seen = new TreeSet<>();
        for (Constructor<?> c : LevelForests.class.getDeclaredConstructors()) {
            add(seen, c.getModifiers(), c.toString());
        }
        for (Field f : LevelForests.class.getDeclaredFields()) {
            add(seen, f.getModifiers(), f.toString());
        }
        for (Method m : LevelForests.class.getDeclaredMethods()) {
            add(seen, m.getModifiers(), m.toString());
        }
        boolean good = true;
        if (!seen.equals(FACE)) {
            good = false;
            System.out.println("the face is " + seen + ", due is " + new TreeSet<>(FACE));
        }
        int modifiers = LevelForests.class.getModifiers();
        if (!Modifier.isPublic(modifiers) || !Modifier.isFinal(modifiers)) {
            good = false;
            System.out.println("the class is not public and final");
        }
        if (good) {
            System.out.println("the face is as due");
        } else {
            System.exit(1);
        }
    }

    private static void add(Set<String> seen, int modifiers, String member) {
        if (!Modifier.isPrivate(modifiers)) {
            seen.add(member);
        }
    }
}
