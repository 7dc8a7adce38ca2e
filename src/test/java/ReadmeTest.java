import java.net.URL;
import java.net.URLClassLoader;
import java.nio.file.Files;
import java.nio.file.Path;
import java.util.List;
import java.util.regex.Matcher;
import java.util.regex.Pattern;
import javax.tools.ToolProvider;

/** README.md's lines of Java, run as they stand there. It is run from the project's folder. */
public final class ReadmeTest {
    // [int name =] x.call(..); // what it answers[: words]
    private static final Pattern CALL =
        Pattern.compile("((?:int|long) (\\w+) = )?(x\\.\\w+\\(.*\\)); +// (-?\\d+|[A-Z]+)(?:: .*|)");
    private static final String NAME = "ReadmeLines";

    public static void main(String[] args) throws Exception {
        StringBuilder source = new StringBuilder("public final class " + NAME + " {\n"
            + "public static java.util.List<Object[]> run() {\n"
            + "java.util.List<Object[]> told = new java.util.ArrayList<>();\n");
        boolean isJava = false;
        for (String line : Files.readAllLines(Path.of("README.md"))) {
            if (line.startsWith("```")) {
                isJava = line.equals("```java");
            } else if (isJava) {
                Matcher call = CALL.matcher(line);
                boolean answers = call.matches();
                Checks.hold(line + " tells what is answered", answers || !line.contains("//"));
                source.append(answers ? kept(call) : line).append('\n');
            }
        }
        List<?> told = run(source.append("return told;\n}\n}\n").toString());
        Checks.hold("README.md has calls", told.size() > 40);
        for (Object each : told) {
            Object[] row = (Object[]) each;
            Checks.due((String) row[0], (Long) row[1], (Long) row[2]);
        }
        Checks.end();
    }

    private static String kept(Matcher call) {
        String name = call.group(2);
        String shown = call.group(3).replace("\"", "'");
        String want = call.group(4).matches("[A-Z]+") ? "RideTie." + call.group(4) : call.group(4);
        String ahead = name == null ? "" : call.group(1) + call.group(3) + ";\n";
        String got = name == null ? call.group(3) : name;
        return ahead + "told.add(new Object[] {\"" + shown + "\", (long) " + got + ", (long) " + want + "});";
    }

    /** What the lines' run() gives; nothing stays behind of them. */
    private static List<?> run(String source) throws Exception {
        Path folder = Files.createTempDirectory("readme");
        Path file = folder.resolve(NAME + ".java");
        Path compiled = folder.resolve(NAME + ".class");
        try (URLClassLoader loader = new URLClassLoader(new URL[] {folder.toUri().toURL()})) {
            Files.writeString(file, source);
            int code = ToolProvider.getSystemJavaCompiler().run(null, null, null, "-d", folder.toString(),
                "-cp", System.getProperty("java.class.path"), file.toString());
            Checks.due("javac of README.md's lines", code, 0);
            return (List<?>) loader.loadClass(NAME).getMethod("run").invoke(null);
        } finally {
            Files.deleteIfExists(file);
            Files.deleteIfExists(compiled);
            Files.deleteIfExists(folder);
        }
    }
}
