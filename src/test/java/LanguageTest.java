import java.io.IOException;
import java.lang.reflect.Field;
import java.lang.reflect.Member;
import java.lang.reflect.Method;
import java.lang.reflect.Modifier;
import java.nio.file.Files;
import java.nio.file.Path;
import java.util.Set;
import java.util.TreeSet;
import java.util.regex.Matcher;
import java.util.regex.Pattern;

/** What of LANGUAGE.md can be seen from the source and the compiled classes. */
public final class LanguageTest {
    private static void none(String code, String pattern) {
        Matcher m = Pattern.compile(pattern).matcher(code);
        Check.dueTrue("not allowed: " + pattern, !m.find());
    }

    private static void source(String code) {
        String bare = code.replaceAll("(?s)/\\*.*?\\*/", "").replaceAll("//[^\n]*", "");
        for (String word : new String[] {"throw", "throws", "try", "catch", "finally", "synchronized", "assert", "package", "protected", "System\\.out",
            "System\\.nano", "System\\.current", "Random", "Thread", "hashCode", "toString", "Object", "Exact", "float", "double"}) {
            none(bare, "\\b" + word + "\\b");
        }
        none(bare, "->|::");
        none(bare, "\"\\s*\\+|\\+\\s*\"");
        none(bare, "while \\(true\\)|for \\(;;\\)");
        Matcher imports = Pattern.compile("import ([\\w.]+);").matcher(bare);
        while (imports.find()) {
            Check.dueTrue("import of " + imports.group(1), imports.group(1).equals("java.util.Arrays"));
        }
    }

    private static void lengths(String code) {
        int begun = -1;
        String[] lines = code.split("\n");
        for (int i = 0; i < lines.length; i++) {
            if (lines[i].matches("( {4}| {8})[\\w\\[\\] ]+\\([^;]*\\) \\{") && !lines[i].contains(" class ")) {
                begun = i;
            } else if (begun >= 0 && lines[i].matches("( {4}| {8})\\}")) {
                Check.dueTrue("a method of " + (i - begun) + " lines at " + (begun + 1), i - begun < 60);
                begun = -1;
            }
        }
    }

    private static void faces(Set<String> face) {
        Class<?>[] inside = SandHold.class.getDeclaredClasses();
        Check.dueTrue("at most twelve classes", inside.length + 1 <= 12);
        for (Class<?> c : inside) {
            Check.dueTrue(c + " is static", Modifier.isStatic(c.getModifiers()));
            Check.dueTrue(c + " is not public", !Modifier.isPublic(c.getModifiers()) && !Modifier.isProtected(c.getModifiers()));
            for (Method m : c.getDeclaredMethods()) {
                Check.dueTrue(m + " bears a public name", m.isSynthetic() || !face.contains(m.getName()));
                Check.dueTrue(m + " takes at most seven", m.getParameterCount() <= 7);
            }
            fields(c);
        }
        fields(SandHold.class);
    }

    private static void fields(Class<?> c) {
        int own = 0;
        for (Field f : c.getDeclaredFields()) {
            if (!Modifier.isStatic(f.getModifiers())) {
                own++;
            } else {
                Check.dueTrue(f + " is final", Modifier.isFinal(f.getModifiers()));
            }
        }
        Check.dueTrue(c + " has " + own + " fields", own <= 20);
    }

    private static boolean hidden(Member m) {
        return Modifier.isPrivate(m.getModifiers()) || m.isSynthetic();
    }

    public static void main(String[] args) throws IOException {
        String path = System.getProperty("sandhold.source", "src/main/java/SandHold.java");
        String code = Files.readString(Path.of(path));
        source(code);
        lengths(code);
        Set<String> face = new TreeSet<>();
        for (Method m : SandHold.class.getDeclaredMethods()) {
            if (Modifier.isPublic(m.getModifiers())) {
                face.add(m.getName());
            }
        }
        Check.due("names of the face", face.size(), 45);
        for (Method m : SandHold.class.getDeclaredMethods()) {
            Check.dueTrue(m + " is public or private", Modifier.isPublic(m.getModifiers()) || hidden(m));
            Check.dueTrue(m + " bears a public name", Modifier.isPublic(m.getModifiers()) || !face.contains(m.getName()));
        }
        for (Field f : SandHold.class.getDeclaredFields()) {
            Check.dueTrue(f + " is private or NONE", hidden(f) || f.getName().equals("NONE"));
        }
        Check.due("constructors", SandHold.class.getConstructors().length, 1);
        Check.dueTrue("the class is public and final", (SandHold.class.getModifiers() & (Modifier.PUBLIC | Modifier.FINAL)) == (Modifier.PUBLIC | Modifier.FINAL));
        faces(face);
        Check.end("LanguageTest");
    }
}
