import java.lang.reflect.Constructor;
import java.lang.reflect.Field;
import java.lang.reflect.Method;
import java.lang.reflect.Modifier;
import java.util.Arrays;
import java.util.TreeSet;

/** The public face of the document: these members, no other that is not private, and none taken over from elsewhere. */
final class FaceTest {
    public static void main(String[] args) {
        TreeSet<String> got = new TreeSet<>();
        got.add(HistEqual.class.toGenericString());
        got.add("extends " + HistEqual.class.getSuperclass().getName());
        for (Class<?> c : HistEqual.class.getInterfaces()) {
            got.add("implements " + c.getName());
        }
        for (Constructor<?> c : HistEqual.class.getDeclaredConstructors()) {
            addUnlessPrivate(got, c.getModifiers(), c.toString());
        }
        for (Method m : HistEqual.class.getDeclaredMethods()) {
            addUnlessPrivate(got, m.getModifiers(), m.toString());
        }
        for (Field f : HistEqual.class.getDeclaredFields()) {
            addUnlessPrivate(got, f.getModifiers(), f.toString());
        }
        TreeSet<String> want = new TreeSet<>(Arrays.asList(
            "public final class HistEqual",
            "extends java.lang.Object",
            "public HistEqual()",
            "public int HistEqual.add(int)",
            "public int HistEqual.total()",
            "public int HistEqual.build()",
            "public int HistEqual.map(int)"));
        if (!got.equals(want)) {
            System.out.println("the face is " + got + ", due is " + want);
            System.exit(1);
        }
    }

    private static void addUnlessPrivate(TreeSet<String> face, int modifiers, String member) {
        if (!Modifier.isPrivate(modifiers)) {
            face.add(member);
        }
    }
}
