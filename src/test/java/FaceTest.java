import java.io.IOException;
import java.lang.reflect.Constructor;
import java.lang.reflect.Field;
import java.lang.reflect.Member;
import java.lang.reflect.Method;
import java.lang.reflect.Modifier;
import java.nio.file.Files;
import java.nio.file.Path;
import java.util.Arrays;
import java.util.Set;
import java.util.TreeSet;

/** The class has the document's face and no other member that can be seen. */
public final class FaceTest {
    private static final Path DOCUMENT = Path.of("../shared/DOC.md");
    private static final Set<String> FACE = new TreeSet<>(Arrays.asList(
            "public static final int CopyReplace.NONE",
            "public CopyReplace()",
            "public int CopyReplace.library(int)",
            "public int CopyReplace.word(int,int)",
            "public int CopyReplace.copy(int,int,boolean)",
            "public int CopyReplace.replace(int)",
            "public int CopyReplace.off(int)",
            "public int CopyReplace.phrase(int,int,int)",
            "public int CopyReplace.from(int,int)",
            "public int CopyReplace.to(int,int)",
            "public int CopyReplace.run()",
            "public int CopyReplace.at(int) throws java.lang.ArrayIndexOutOfBoundsException",
            "public int CopyReplace.place(int,int)",
            "public int CopyReplace.ring(int)",
            "public int CopyReplace.count(int)"));

    public static void main(String[] args) throws IOException {
        Checks c = new Checks();
        Set<String> seen = seen();
        Set<String> missing = new TreeSet<>(FACE);
        missing.removeAll(seen);
        Set<String> tooMany = new TreeSet<>(seen);
        tooMany.removeAll(FACE);
        c.due("members missing", missing.toString(), "[]");
        c.due("members too many", tooMany.toString(), "[]");
        c.due("the class", Modifier.toString(CopyReplace.class.getModifiers()), "public final");
        c.due("the class above it", CopyReplace.class.getSuperclass().getName(), "java.lang.Object");
        c.due("interfaces", CopyReplace.class.getInterfaces().length, 0);
        c.due("NONE", CopyReplace.NONE, -1);
        if (Files.exists(DOCUMENT)) {
            c.due("the document's face", told().toString(), FACE.toString());
        } else {
            System.out.println("there is no " + DOCUMENT + ": the face is not looked up in it");
        }
        c.end();
    }

    private static Set<String> seen() {
        Set<String> seen = new TreeSet<>();
        for (Field f : CopyReplace.class.getDeclaredFields()) {
            addVisible(seen, f);
        }
        for (Constructor<?> k : CopyReplace.class.getDeclaredConstructors()) {
            addVisible(seen, k);
        }
        for (Method m : CopyReplace.class.getDeclaredMethods()) {
            addVisible(seen, m);
        }
        return seen;
    }

    private static void addVisible(Set<String> seen, Member m) {
        if (!Modifier.isPrivate(m.getModifiers()) && !m.isSynthetic()) {
            seen.add(m.toString());
        }
    }

    /** The members that the document shows, in the words of reflection. */
    private static Set<String> told() throws IOException {
        Set<String> told = new TreeSet<>();
        for (String line : Files.readAllLines(DOCUMENT)) {
            if (line.matches(" +public .*;")) {
                String member = line.trim()
                        .replaceFirst("( = .*)?;$", "")
                        .replaceAll("(int|boolean) \\w+(?=[,)])", "$1")
                        .replace(", ", ",")
                        .replace("throws ", "throws java.lang.");
                told.add(member.replaceFirst("^(public (?:static final )?int) ", "$1 CopyReplace."));
            }
        }
        return told;
    }
}
