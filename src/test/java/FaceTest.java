import java.lang.reflect.Constructor;
import java.lang.reflect.Field;
import java.lang.reflect.Method;
import java.lang.reflect.Modifier;
import java.util.Set;
import java.util.TreeSet;

/** The class has just the document's face: its members, and none other that is not private. */
public final class FaceTest {
    private static final Set<String> FACE = Set.of(
        "public LevelForests()",
        "public static final int LevelForests.BAD",
        "public static final int LevelForests.FULL",
        "public int LevelForests.link(int,int)",
        "public int LevelForests.cut(int,int)",
        "public boolean LevelForests.connected(int,int)",
        "public int LevelForests.part(int)",
        "public int LevelForests.parts()",
        "public boolean LevelForests.isEdge(int,int)",
        "public boolean LevelForests.isBridge(int,int)",
        "public int LevelForests.edges()",
        "public int LevelForests.spare()",
        "public int LevelForests.isolate(int)",
        "public int LevelForests.greatest()");

    private static int wrong = 0;

    public static void main(String[] args) {
        Set<String> seen = new TreeSet<>();
        for (Constructor<?> c : LevelForests.class.getDeclaredConstructors()) {
            add(seen, c.getModifiers(), c.toString());
        }
        for (Field f : LevelForests.class.getDeclaredFields()) {
            add(seen, f.getModifiers(), f.toString());
        }
        for (Method m : LevelForests.class.getDeclaredMethods()) {
            add(seen, m.getModifiers(), m.toString());
        }
        due("the face", seen, new TreeSet<>(FACE));
        Class<LevelForests> type = LevelForests.class;
        due("public", Modifier.isPublic(type.getModifiers()), true);
        due("final", Modifier.isFinal(type.getModifiers()), true);
        due("the class above", type.getSuperclass(), Object.class);
        due("interfaces", type.getInterfaces().length, 0);
        due("classes inside", type.getDeclaredClasses().length, 0);
        due("package", type.getPackageName(), "");
        due("BAD as a label", constantName(-1), "BAD");
        due("FULL as a label", constantName(-2), "FULL");
        if (wrong != 0) {
            System.exit(1);
        }
        System.out.println("the face is as due");
    }

    // Only a constant of the compiler's can be a label: without one this does not compile.
    private static String constantName(int answer) {
        return switch (answer) {
            case LevelForests.BAD -> "BAD";
            case LevelForests.FULL -> "FULL";
            default -> "none";
        };
    }

    private static void due(String what, Object got, Object want) {
        if (!got.equals(want)) {
            wrong++;
            System.out.println(what + " is " + got + ", due is " + want);
        }
    }

    private static void add(Set<String> seen, int modifiers, String member) {
        if (!Modifier.isPrivate(modifiers)) {
            seen.add(member);
        }
    }
}
