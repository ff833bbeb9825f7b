import java.lang.reflect.Constructor;
import java.lang.reflect.Field;
import java.lang.reflect.Method;
import java.lang.reflect.Modifier;
import java.util.Arrays;
import java.util.Set;
import java.util.TreeSet;

/** The class has the document's face and no other member that can be seen. */
public final class FaceTest {
    private static final Set<String> FACE = new TreeSet<>(Arrays.asList(
            "public static final int CopyReplace.NONE",
            "public CopyReplace()",
            "public int CopyReplace.library(int)",
            "public int CopyReplace.word(int,int)",
            "public int CopyReplace.copy(int,int,boolean)",
            "public int CopyReplace.replace(int)",
            "public int CopyReplace.off(int)",
            "public int CopyReplace.phrase(int,int,int)",
            "public int CopyReplace.from(int,int)",
            "public int CopyReplace.to(int,int)",
            "public int CopyReplace.run()",
            "public int CopyReplace.at(int) throws java.lang.ArrayIndexOutOfBoundsException",
            "public int CopyReplace.place(int,int)",
            "public int CopyReplace.ring(int)",
            "public int CopyReplace.count(int)"));

    public static void main(String[] args) {
        Checks c = new Checks();
        Set<String> seen = new TreeSet<>();
        for (Field f : CopyReplace.class.getDeclaredFields()) {
            if (!Modifier.isPrivate(f.getModifiers()) && !f.isSynthetic()) {
                seen.add(f.toString());
            }
        }
        for (Constructor<?> k : CopyReplace.class.getDeclaredConstructors()) {
            if (!Modifier.isPrivate(k.getModifiers()) && !k.isSynthetic()) {
                seen.add(k.toString());
            }
        }
        for (Method m : CopyReplace.class.getDeclaredMethods()) {
            if (!Modifier.isPrivate(m.getModifiers()) && !m.isSynthetic()) {
                seen.add(m.toString());
            }
        }
        Set<String> missing = new TreeSet<>(FACE);
        missing.removeAll(seen);
        Set<String> tooMany = new TreeSet<>(seen);
        tooMany.removeAll(FACE);
        c.due("members missing " + missing, missing.size(), 0);
        c.due("members too many " + tooMany, tooMany.size(), 0);
        c.due("the class is public and final", CopyReplace.class.getModifiers() & (Modifier.PUBLIC | Modifier.FINAL),
                Modifier.PUBLIC | Modifier.FINAL);
        c.due("NONE", CopyReplace.NONE, -1);
        c.end();
    }
}
