import java.io.IOException;
import java.lang.reflect.Field;
import java.lang.reflect.Member;
import java.lang.reflect.Method;
import java.lang.reflect.Modifier;
import java.nio.file.Files;
import java.nio.file.Path;
import java.util.Arrays;
import java.util.Set;
import java.util.TreeSet;
import java.util.regex.Matcher;
import java.util.regex.Pattern;

/** The public face, and what of LANGUAGE.md can be told by reflection and by a scan of the source. */
public final class FaceTest {
    private static final String FACE = "angle/2 back/0 bears/1 count/1 ends/4 fault/0 fewest/2 forget/0 "
            + "frame/2 hang/1 hers/1 keep/0 lay/0 leave/1 look/2 most/1 night/2 patches/1 person/2 rest/0 "
            + "safe/1 seen/2 sets/2 sways/0 tempt/2 told/2 turn/3 undo/0 who/2 wipe/0 wire/6 write/1";
    private static final String BANNED = "throw|try|catch|throws|synchronized|assert|import static|protected"
            + "|volatile|transient|native|System\\.(?!arraycopy)\\w+|Thread|Random|Object|Exact|lambda|->|::|NaN";

    private FaceTest() {
    }

    private static boolean isOpen(Member m) {
        return !Modifier.isPrivate(m.getModifiers()) && !m.isSynthetic();
    }

    public static void main(String[] args) throws IOException {
        face();
        constants();
        insides();
        source(Files.readString(Path.of("src/main/java/CrookedFrames.java")));
        Due.close();
    }

    private static void face() {
        Due.same("the class is public and final", CrookedFrames.class.getModifiers(),
                Modifier.PUBLIC | Modifier.FINAL);
        Set<String> open = new TreeSet<>();
        for (Method m : CrookedFrames.class.getDeclaredMethods()) {
            if (isOpen(m)) {
                open.add(m.getName() + "/" + m.getParameterCount());
                Due.same(m + " answers", m.getReturnType(), int.class);
                Due.same(m + " is public, not static", m.getModifiers(), Modifier.PUBLIC);
                for (Class<?> type : m.getParameterTypes()) {
                    Due.same(m + " takes", type, int.class);
                }
            }
        }
        Due.same("the face", open, new TreeSet<>(Arrays.asList(FACE.split(" "))));
        Due.same("constructors", CrookedFrames.class.getDeclaredConstructors().length, 1);
        Due.same("constructors, public", CrookedFrames.class.getConstructors().length, 1);
    }

    private static void constants() {
        Set<String> open = new TreeSet<>();
        for (Field f : CrookedFrames.class.getDeclaredFields()) {
            if (isOpen(f)) {
                open.add(f.getName());
            }
        }
        Due.same("constants", open, new TreeSet<>(Arrays.asList("BAD", "NO", "FULL", "NONE")));
        Due.is("BAD", CrookedFrames.BAD, -1);
        Due.is("NO", CrookedFrames.NO, -2);
        Due.is("FULL", CrookedFrames.FULL, -3);
        Due.is("NONE", CrookedFrames.NONE, -4);
    }

    private static void insides() {
        Set<String> face = new TreeSet<>();
        for (String name : FACE.split(" ")) {
            face.add(name.substring(0, name.indexOf('/')));
        }
        Class<?>[] inside = CrookedFrames.class.getDeclaredClasses();
        Due.same("at most twelve classes", inside.length + 1 <= 12, true);
        for (Class<?> c : inside) {
            Due.same(c + " is static", Modifier.isStatic(c.getModifiers()), true);
            for (Method m : c.getDeclaredMethods()) {
                Due.same(m + " has a name of its own", face.contains(m.getName()), false);
                Due.same(m + " takes at most seven", m.getParameterCount() <= 7, true);
            }
            fields(c);
        }
        for (Method m : CrookedFrames.class.getDeclaredMethods()) {
            if (!isOpen(m)) {
                Due.same(m + " has a name of its own", face.contains(m.getName()), false);
            }
        }
        fields(CrookedFrames.class);
    }

    private static void fields(Class<?> c) {
        int own = 0;
        for (Field f : c.getDeclaredFields()) {
            if (Modifier.isStatic(f.getModifiers())) {
                Due.same(f + " is final", Modifier.isFinal(f.getModifiers()), true);
            } else {
                own++;
            }
        }
        Due.same(c + " has at most twenty fields", own <= 20, true);
    }

    private static void source(String text) {
        String code = text.replaceAll("(?s)/\\*.*?\\*/", "").replaceAll("//[^\n]*", "")
                .replaceAll("\"[^\"\n]*\"", "\"\"");
        Matcher m = Pattern.compile("\\b(" + BANNED.replace("|->|::", "") + ")\\b|->|::").matcher(code);
        while (m.find()) {
            Due.same("the source keeps out", m.group(), "");
        }
        Matcher imports = Pattern.compile("import ([^;]*);").matcher(code);
        while (imports.find()) {
            Due.same("imports", imports.group(1), "java.util.Arrays");
        }
        Due.same("ASCII alone", text.chars().allMatch(c -> c < 128), true);
        Due.same("no package line", code.contains("package "), false);
        // All rows are made with the object: no call makes any.
        Matcher made = Pattern.compile("(?m)^(?!.*(private .*=|rows).*).*\\bnew \\w+.*$").matcher(code);
        while (made.find()) {
            Due.same("made by a call", made.group().trim(), "");
        }
    }
}
