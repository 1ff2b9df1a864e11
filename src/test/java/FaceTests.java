import java.lang.reflect.Constructor;
import java.lang.reflect.Field;
import java.lang.reflect.Method;
import java.lang.reflect.Modifier;
import java.util.Set;
import java.util.TreeSet;

/** The class has the members of the document's public face, and no other one that is not private. */
public final class FaceTests {
    private static final Set<String> DUE = Set.of(
        "public static final int GroupChangelog.RETRACT",
        "public static final int GroupChangelog.ASSERT",
        "public GroupChangelog()",
        "public int GroupChangelog.insert(int,int)",
        "public int GroupChangelog.remove(int,int)",
        "public int GroupChangelog.removeGroup(int)",
        "public int GroupChangelog.limits(int,int)",
        "public int GroupChangelog.pending()",
        "public int GroupChangelog.sort(int)",
        "public int GroupChangelog.key(int)",
        "public int GroupChangelog.field(int,int)",
        "public int GroupChangelog.take(int)",
        "public int GroupChangelog.now(int,int)",
        "public int GroupChangelog.below(int,int)");

    private static Set<String> face() {
        Set<String> found = new TreeSet<>();
        for (Field f : GroupChangelog.class.getDeclaredFields()) {
            if (!Modifier.isPrivate(f.getModifiers())) {
                found.add(f.toString());
            }
        }
        for (Constructor<?> c : GroupChangelog.class.getDeclaredConstructors()) {
            if (!Modifier.isPrivate(c.getModifiers())) {
                found.add(c.toString());
            }
        }
        for (Method m : GroupChangelog.class.getDeclaredMethods()) {
            if (!Modifier.isPrivate(m.getModifiers())) {
                found.add(m.toString());
            }
        }
        return found;
    }

    public static void main(String[] args) {
        Set<String> missing = new TreeSet<>(DUE);
        missing.removeAll(face());
        Set<String> extra = face();
        extra.removeAll(DUE);
        int modifiers = GroupChangelog.class.getModifiers();
        boolean publicAndFinal = Modifier.isPublic(modifiers) && Modifier.isFinal(modifiers);
        if (missing.isEmpty() && extra.isEmpty() && publicAndFinal) {
            System.out.println("the face is as due");
            return;
        }
        System.out.println("missing: " + missing + ", not in the document: " + extra
            + ", public and final: " + publicAndFinal);
        System.exit(1);
    }
}
