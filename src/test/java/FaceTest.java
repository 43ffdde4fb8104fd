import java.io.IOException;
import java.lang.reflect.Constructor;
import java.lang.reflect.Field;
import java.lang.reflect.Method;
import java.lang.reflect.Modifier;
import java.nio.file.Files;
import java.nio.file.Path;
import java.util.Set;
import java.util.StringJoiner;
import java.util.TreeSet;
import java.util.regex.Matcher;
import java.util.regex.Pattern;

/** The public face: the class has what the document shows, name by name and type by type, and nothing more. */
public final class FaceTest {
    private static String types(Class<?>[] parameters) {
        StringJoiner types = new StringJoiner(", ", "(", ")");
        for (Class<?> p : parameters) {
            types.add(p.getName());
        }
        return types.toString();
    }

    private static String marks(int modifiers) {
        return Modifier.toString(modifiers) + " ";
    }

    /** What of the class others can see, as the document writes it, but for the parameters' names. */
    private static Set<String> ofTheClass() throws IllegalAccessException {
        Set<String> face = new TreeSet<>();
        face.add(marks(SandHold.class.getModifiers()) + "class SandHold");
        for (Field f : SandHold.class.getDeclaredFields()) {
            if (!Modifier.isPrivate(f.getModifiers()) && !f.isSynthetic()) {
                face.add(marks(f.getModifiers()) + f.getType().getName() + " " + f.getName() + " = " + f.get(null));
            }
        }
        for (Constructor<?> c : SandHold.class.getDeclaredConstructors()) {
            face.add(marks(c.getModifiers()) + "SandHold" + types(c.getParameterTypes()));
        }
        for (Method m : SandHold.class.getDeclaredMethods()) {
            if (!Modifier.isPrivate(m.getModifiers()) && !m.isSynthetic()) {
                face.add(marks(m.getModifiers()) + m.getReturnType().getName() + " " + m.getName() + types(m.getParameterTypes()));
            }
        }
        return face;
    }

    private static Set<String> ofTheDocument(String document) {
        Set<String> face = new TreeSet<>();
        Matcher block = Pattern.compile("(?s)## The public face\\s+```java\\n(.*?)```").matcher(document);
        if (block.find()) {
            for (String line : block.group(1).split("\n")) {
                String told = line.replaceAll("[;{]", "").trim().replaceAll("\\b(int|long) \\w+(?=[,)])", "$1");
                if (!told.equals("}")) {
                    face.add(told);
                }
            }
        }
        return face;
    }

    /** What the interface says ahead of some calls stands ahead of them in the source, and the calls one behind the other. */
    private static void sections(String document, String source) {
        Matcher said = Pattern.compile("Ahead of the calls (.*?) the interface says: (---- .*?)\\.\n").matcher(document);
        int at = 0;
        int sections = 0;
        while (said.find()) {
            sections++;
            at = behind(source, "// " + said.group(2) + "\n", at);
            Matcher call = Pattern.compile("`(\\w+)`").matcher(said.group(1));
            while (call.find()) {
                at = behind(source, " " + call.group(1) + "(", at);
            }
        }
        Check.due("sections of the interface", sections, 11);
    }

    private static int behind(String source, String what, int at) {
        int found = source.indexOf(what, at);
        Check.dueTrue(what.trim() + " stands where the interface has it", found >= 0);
        return Math.max(at, found);
    }

    public static void main(String[] args) throws IOException, IllegalAccessException {
        String document = Files.readString(Path.of(System.getProperty("sandhold.document", "../shared/DOC.md")));
        String source = Files.readString(Path.of(System.getProperty("sandhold.source", "src/main/java/SandHold.java")));
        Set<String> due = ofTheDocument(document);
        Set<String> got = ofTheClass();
        Check.due("the class, NONE, the constructor, 45 calls", due.size(), 48);
        for (String member : due) {
            Check.dueTrue("the class has " + member, got.contains(member));
        }
        for (String member : got) {
            Check.dueTrue("the document has " + member, due.contains(member));
        }
        sections(document, source);
        Check.end("FaceTest");
    }
}
