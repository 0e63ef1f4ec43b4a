import java.lang.reflect.Method;
import java.lang.reflect.Modifier;
import java.net.URL;
import java.net.URLClassLoader;
import java.nio.file.Files;
import java.nio.file.Path;
import java.util.ArrayList;
import java.util.List;
import java.util.Set;
import java.util.TreeSet;
import java.util.regex.Matcher;
import java.util.regex.Pattern;
import javax.tools.JavaCompiler;
import javax.tools.ToolProvider;

/** README.md: its example is compiled and run as it stands, each row with the answer behind it; its findings and commands are looked at. */
final class ReadmeTest {
    private static final Due due = new Due();
    private static final Pattern ROW = Pattern.compile("^(x\\.(\\w+)\\(.*\\)); +// (-?\\d+): \\S.*$");
    private static final String EXAMPLE = "ReadmeExample";

    public static void main(String[] args) throws Exception {
        String readme = Files.readString(Path.of("README.md"));
        example(block(readme, "java"));
        findings(readme);
        commands(readme);
        due.same("it says for how many calls an object is used", readme.contains("at most 512 calls") ? 1 : 0, 1);
        due.end();
    }

    private static String block(String readme, String language) {
        Matcher found = Pattern.compile("(?s)```" + language + "\n(.*?)```").matcher(readme);
        return found.find() ? found.group(1) : "";
    }

    private static void example(String block) throws Exception {
        Set<String> shown = new TreeSet<>();
        List<String> rows = new ArrayList<>();
        StringBuilder body = new StringBuilder();
        for (String line : block.split("\n")) {
            Matcher row = ROW.matcher(line);
            if (row.matches()) {
                shown.add(row.group(2));
                rows.add(line);
                body.append("answers.add((long) ").append(row.group(1)).append(");\n");
            } else {
                due.same("a call without its answer: " + line, line.startsWith("x.") ? 1 : 0, 0);
                body.append(line).append('\n');
            }
        }
        List<Long> answers = new ArrayList<>();
        compiled(body.toString()).invoke(null, answers);
        due.same("rows of the example", answers.size(), rows.size());
        for (int i = 0; i < rows.size(); i++) {
            Matcher row = ROW.matcher(rows.get(i));
            due.same("README.md: " + rows.get(i), answers.get(i), row.matches() ? Long.parseLong(row.group(3)) : Long.MIN_VALUE);
        }
        for (Method act : OwingSwings.class.getDeclaredMethods()) {
            if (Modifier.isPublic(act.getModifiers())) {
                due.same("the example shows " + act.getName(), shown.contains(act.getName()) ? 1 : 0, 1);
            }
        }
    }

    private static Method compiled(String body) throws Exception {
        Path folder = Files.createTempDirectory("readme");
        Path file = folder.resolve(EXAMPLE + ".java");
        Files.writeString(file, "public final class " + EXAMPLE + " {\npublic static void show(java.util.List<Long> answers) {\n" + body + "}\n}\n");
        JavaCompiler compiler = ToolProvider.getSystemJavaCompiler();
        int code = compiler.run(null, null, null, "-cp", System.getProperty("java.class.path"), "-d", folder.toString(), file.toString());
        due.same("the example compiles", code, 0);
        try (URLClassLoader loader = new URLClassLoader(new URL[] {folder.toUri().toURL()}, ReadmeTest.class.getClassLoader())) {
            return loader.loadClass(EXAMPLE).getMethod("show", List.class);
        } finally {
            Files.delete(file);
            Files.delete(folder.resolve(EXAMPLE + ".class"));
            Files.delete(folder);
        }
    }

    private static void findings(String readme) {
        String[] names = {"BEYOND", "FULL", "KIND", "NONE", "STATE", "MISSING", "SIZE"};
        for (int which = 0; which < names.length; which++) {
            String row = "| " + (-1000000001 - which) + " | " + names[which] + " | " + which + " |";
            due.same("the table has " + row, readme.contains(row) ? 1 : 0, 1);
        }
    }

    /** The files and the test that the commands name are there. */
    private static void commands(String readme) {
        String[] named = {".ci/run", "src/main/java/OwingSwings.java", "src/test/java/TermsEdgesTest.java"};
        for (String file : named) {
            String name = file.substring(file.lastIndexOf('/') + 1).replaceFirst("Test\\.java$", "Test");
            due.same("README.md names " + name, readme.contains(name) ? 1 : 0, 1);
            due.same(file + " is there", Files.exists(Path.of(file)) ? 1 : 0, 1);
        }
    }
}
