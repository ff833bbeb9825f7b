import java.io.IOException;
import java.lang.reflect.Field;
import java.lang.reflect.Method;
import java.lang.reflect.Modifier;
import java.nio.file.Files;
import java.nio.file.Path;
import java.util.ArrayList;
import java.util.List;
import java.util.Set;
import java.util.TreeSet;
import java.util.regex.Matcher;
import java.util.regex.Pattern;

/** What can be seen from outside of the rules in ../shared/LANGUAGE.md, by their numbers; the rest is for readers. */
public final class LanguageTest {
    private static final Path FILE = Path.of("src/main/java/CopyReplace.java");
    private static final int MOST_PARAMETERS = 7;
    private static final int MOST_LINES = 60;
    private static final int MOST_CLASSES = 12;
    private static final int MOST_FIELDS = 20;
    private static final Set<String> CONSTANTS = Set.of("int", "long", "boolean", "char", "class java.lang.String",
            "class [I", "class [J", "class [C", "class [B");

    private static final Checks c = new Checks();

    public static void main(String[] args) throws IOException {
        String code = withoutRemarks(Files.readString(FILE));
        List<Class<?>> all = new ArrayList<>(List.of(CopyReplace.class.getDeclaredClasses()));
        c.due("1: package line", has(code, "^package\\b"), false);
        c.due("1: names that are private and public", namesOfBoth().toString(), "[]");
        for (Class<?> inside : all) {
            int seen = inside.getModifiers();
            c.due("1: static and not in sight: " + inside, Modifier.isStatic(seen)
                    && !Modifier.isPublic(seen) && !Modifier.isProtected(seen), true);
        }
        c.due("2: lambdas and references to methods", has(code, "->|::"), false);
        c.due("4: imports", has(code, "^import\\b|\\bjava\\.|\\bjavax\\."), false);
        c.due("5: initialiser blocks", has(code, "\\bstatic *\\{"), false);
        c.due("6: catching and the like", has(code, "\\b(try|catch|finally|synchronized|assert)\\b"), false);
        c.due("6: all that is thrown", thrown(code).toString(), "[new ArrayIndexOutOfBoundsException()]");
        c.due("11: methods are short", longest(code) <= MOST_LINES, true);
        all.add(CopyReplace.class);
        c.due("11: " + all.size() + " classes are not too many", all.size() <= MOST_CLASSES, true);
        for (Class<?> one : all) {
            fields(one);
            parameters(one);
        }
        c.end();
    }

    private static boolean has(String code, String what) {
        return Pattern.compile(what, Pattern.MULTILINE).matcher(code).find();
    }

    private static String withoutRemarks(String code) {
        return code.replaceAll("(?s)/\\*.*?\\*/", "").replaceAll("//[^\n]*", "");
    }

    private static Set<String> namesOfBoth() {
        Set<String> ofPublic = new TreeSet<>();
        Set<String> others = new TreeSet<>();
        for (Method m : CopyReplace.class.getDeclaredMethods()) {
            (Modifier.isPublic(m.getModifiers()) ? ofPublic : others).add(m.getName());
        }
        others.retainAll(ofPublic);
        return others;
    }

    private static Set<String> thrown(String code) {
        Set<String> thrown = new TreeSet<>();
        Matcher m = Pattern.compile("\\bthrow\\b *([^;]*)").matcher(code);
        while (m.find()) {
            thrown.add(m.group(1));
        }
        return thrown;
    }

    /** The most lines that a method has: from its first line to the bracket that stands under that. */
    private static int longest(String code) {
        int longest = 0;
        int begun = 0;
        String end = "";
        String[] lines = code.split("\n");
        for (int i = 0; i < lines.length; i++) {
            if (lines[i].matches(" +[\\w\\[\\] ]+\\(.*\\{") && !lines[i].matches(" +(if|for|while|switch|} else).*")
                    && end.isEmpty()) {
                begun = i;
                end = lines[i].replaceFirst("\\S.*", "") + "}";
            } else if (lines[i].equals(end)) {
                longest = Math.max(longest, i - begun + 1);
                end = "";
            }
        }
        c.due("11: methods were found", longest > 1, true);
        return longest;
    }

    private static void fields(Class<?> one) {
        int own = 0;
        for (Field f : one.getDeclaredFields()) {
            if (Modifier.isStatic(f.getModifiers())) {
                c.due("5: final: " + f, Modifier.isFinal(f.getModifiers()), true);
                c.due("5: a constant: " + f, CONSTANTS.contains(f.getType().toString()), true);
            } else {
                own++;
            }
        }
        c.due("11: " + own + " fields are not too many: " + one, own <= MOST_FIELDS, true);
    }

    private static void parameters(Class<?> one) {
        for (Method m : one.getDeclaredMethods()) {
            c.due("11: parameters of " + m, m.getParameterCount() <= MOST_PARAMETERS, true);
        }
    }
}
