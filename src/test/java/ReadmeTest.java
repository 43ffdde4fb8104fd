import java.io.ByteArrayOutputStream;
import java.io.File;
import java.io.IOException;
import java.io.InputStream;
import java.nio.charset.StandardCharsets;
import java.nio.file.Files;
import java.nio.file.Path;
import java.util.ArrayList;
import java.util.List;
import java.util.regex.Matcher;
import java.util.regex.Pattern;
import java.util.stream.Stream;

/** README.md: its example answers as its remarks say, its commands work where nothing but the sources is. */
public final class ReadmeTest {
    private static List<String> blocks(String readme, String language) {
        List<String> found = new ArrayList<>();
        Matcher m = Pattern.compile("(?s)```" + language + "\\n(.*?)```").matcher(readme);
        while (m.find()) {
            found.add(m.group(1));
        }
        return found;
    }

    private static String told(InputStream stream) throws IOException {
        ByteArrayOutputStream all = new ByteArrayOutputStream();
        stream.transferTo(all);
        return all.toString(StandardCharsets.UTF_8);
    }

    private static String run(Path folder, String... command) throws IOException, InterruptedException {
        Process process = new ProcessBuilder(command).directory(folder.toFile()).redirectErrorStream(true).start();
        String told = told(process.getInputStream());
        int exit = process.waitFor();
        Check.due(String.join(" ", command) + ": exit code, having told " + (exit == 0 ? "" : told), exit, 0);
        return told;
    }

    /** Each number that the example prints stands first in the remark behind the line that prints it. */
    private static void example(String program, Path folder) throws IOException, InterruptedException {
        Files.writeString(folder.resolve("Example.java"), program);
        String path = new File(System.getProperty("java.class.path")).getAbsolutePath();
        run(folder, "javac", "-encoding", "UTF-8", "-cp", path, "-d", folder.toString(), "Example.java");
        String[] printed = run(folder, "java", "-cp", path + File.pathSeparator + folder, "Example").split("\\s+");
        Matcher remark = Pattern.compile("\\)\\); *// (-?\\d+):").matcher(program);
        int i = 0;
        for (; remark.find(); i++) {
            long due = Long.parseLong(remark.group(1));
            Check.due("line " + (i + 1) + " that the example prints", i < printed.length ? Long.parseLong(printed[i]) : due - 1, due);
        }
        Check.due("lines that the example prints", printed.length, i);
    }

    private static void copy(Path from, Path to) throws IOException {
        try (Stream<Path> files = Files.walk(from)) {
            for (Path file : (Iterable<Path>) files::iterator) {
                Path target = to.resolve(from.relativize(file).toString());
                if (Files.isDirectory(file)) {
                    Files.createDirectories(target);
                } else if (!file.toString().endsWith(".class")) {
                    Files.copy(file, target);
                }
            }
        }
    }

    /** All commands but .ci/run itself, which would run this test again. */
    private static void commands(String readme, Path project, Path folder) throws IOException, InterruptedException {
        Path main = folder.resolve("main");
        copy(project.resolve("src").toRealPath(), main.resolve("src"));
        copy(project.resolve("../shared").toRealPath(), folder.resolve("shared"));
        boolean all = false;
        int others = 0;
        for (String block : blocks(readme, "sh")) {
            for (String command : block.split("\n")) {
                if (command.equals(".ci/run")) {
                    all = true;
                } else {
                    run(main, "sh", "-c", command);
                    others++;
                }
            }
        }
        Check.dueTrue("README.md gives .ci/run, which can be run", all && Files.isExecutable(project.resolve(".ci/run")));
        Check.dueTrue("README.md gives commands for one test, too", others > 0);
    }

    private static void names(String readme, Path tests) throws IOException {
        for (java.lang.reflect.Method m : SandHold.class.getMethods()) {
            if (m.getDeclaringClass() == SandHold.class) {
                Check.dueTrue("README.md names " + m.getName(), readme.contains("`" + m.getName() + "`"));
            }
        }
        try (Stream<Path> files = Files.list(tests)) {
            for (Path file : (Iterable<Path>) files::iterator) {
                String name = file.getFileName().toString().replace(".java", "");
                Check.dueTrue("README.md names " + name, readme.contains(name));
            }
        }
    }

    private static void remove(Path folder) throws IOException {
        List<Path> all = new ArrayList<>();
        try (Stream<Path> files = Files.walk(folder)) {
            files.forEach(all::add);
        }
        for (int i = all.size() - 1; i >= 0; i--) {
            Files.delete(all.get(i));
        }
    }

    public static void main(String[] args) throws IOException, InterruptedException {
        Path project = Path.of(System.getProperty("sandhold.project", "."));
        String readme = Files.readString(project.resolve("README.md"));
        Path folder = Files.createTempDirectory("readme");
        List<String> programs = blocks(readme, "java");
        Check.due("programs in README.md", programs.size(), 1);
        for (String program : programs) {
            example(program, folder);
        }
        commands(readme, project, folder);
        names(readme, project.resolve("src/test/java"));
        remove(folder);
        Check.end("ReadmeTest");
    }
}
