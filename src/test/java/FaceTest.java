import java.lang.reflect.Constructor;
import java.lang.reflect.Field;
import java.lang.reflect.Method;
import java.lang.reflect.Modifier;
import java.util.Arrays;
import java.util.TreeSet;

/** The document's face and the first rule of LANGUAGE.md: every member of the face, and no other that is not private. */
public final class FaceTest {
    private static final String[] FACE = {
        "public VersionMaps()",
        "public static final int VersionMaps.FULL",
        "public static final int VersionMaps.NONE",
        "public static final int VersionMaps.REFUSED",
        "public static final long VersionMaps.GONE",
        "public static final long VersionMaps.NOTHING",
        "public int VersionMaps.block(int,int)",
        "public int VersionMaps.chunk(int,int)",
        "public int VersionMaps.commit()",
        "public int VersionMaps.compact(int)",
        "public int VersionMaps.count(int)",
        "public int VersionMaps.crash(int,int)",
        "public int VersionMaps.hold(int)",
        "public int VersionMaps.kept(int)",
        "public int VersionMaps.next(int,int)",
        "public int VersionMaps.pin(int)",
        "public int VersionMaps.put(int,int,int)",
        "public int VersionMaps.remove(int,int)",
        "public int VersionMaps.rollback(int)",
        "public int VersionMaps.sync()",
        "public int VersionMaps.unpin(int)",
        "public long VersionMaps.at(int,int,int)",
        "public long VersionMaps.get(int,int)"};

    private FaceTest() {
    }

    public static void main(String[] args) {
        TreeSet<String> found = new TreeSet<>();
        for (Constructor<?> c : VersionMaps.class.getDeclaredConstructors()) {
            addUnlessHidden(found, c.getModifiers(), c.isSynthetic(), c.toString());
        }
        for (Method m : VersionMaps.class.getDeclaredMethods()) {
            addUnlessHidden(found, m.getModifiers(), m.isSynthetic(), m.toString());
        }
        for (Field f : VersionMaps.class.getDeclaredFields()) {
            addUnlessHidden(found, f.getModifiers(), f.isSynthetic(), f.toString());
        }
        boolean isFinal = Modifier.isFinal(VersionMaps.class.getModifiers());
        boolean same = found.equals(new TreeSet<>(Arrays.asList(FACE)));
        if (!same || !isFinal) {
            System.out.println("the face is not the document's: " + found);
            System.exit(1);
        }
        System.out.println("the face is the document's");
    }

    private static void addUnlessHidden(TreeSet<String> found, int modifiers, boolean made, String text) {
        if (!Modifier.isPrivate(modifiers) && !made) {
            found.add(text);
        }
    }
}
