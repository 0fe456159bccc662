import java.io.File;
import java.lang.reflect.Method;
import java.lang.reflect.Modifier;
import java.net.URL;
import java.net.URLClassLoader;
import java.nio.file.Files;
import java.nio.file.Path;
import java.util.regex.Matcher;
import java.util.regex.Pattern;
import javax.tools.JavaCompiler;
import javax.tools.ToolProvider;

/** README.md's examples of use are true: they compile as they stand there, and each call answers what they tell. */
public final class ReadmeTest {
    private static final Check CHECK = new Check();
    private static final Pattern BLOCK = Pattern.compile("(?s)```java\n(.*?)```");
    private static final Pattern CALL = Pattern.compile("(int \\w+ = )?([\\w ()]+\\.\\w+\\(.*?\\)); *// (-?\\d+)\\b.*");
    private static int told = 0;

    public static void main(String[] args) throws Exception {
        String readme = Files.readString(Path.of("README.md"));
        runExample(exampleOf(readme));
        long answers = BLOCK.matcher(readme).results().flatMap(block -> block.group(1).lines())
                .filter(line -> line.matches(".*// -?\\d.*")).count();
        CHECK.due("answers that README.md tells, all compared", told, answers);
        CHECK.due("each part has some of them", told >= 40);
        for (Method m : PaperHouse.class.getDeclaredMethods()) {
            if (Modifier.isPublic(m.getModifiers())) {
                CHECK.due("README.md names " + m.getName(), readme.contains("`" + m.getName() + "`"));
            }
        }
        CHECK.due("README.md tells how to run the tests", readme.contains(".ci/run"));
        for (File test : new File("src/test/java").listFiles((folder, name) -> name.endsWith("Test.java"))) {
            CHECK.due(test + " is there to be run", new String(Files.readAllBytes(test.toPath())).contains(" main("));
        }
        CHECK.finish();
    }

    /** Called by the compiled example. */
    public static void due(String line, int got, int want) {
        told++;
        CHECK.due("README.md: " + line, got, want);
    }

    /** A class of the README's blocks: those that are methods stay so, the others make up its main method. */
    private static String exampleOf(String readme) {
        StringBuilder methods = new StringBuilder();
        StringBuilder main = new StringBuilder();
        for (Matcher block = BLOCK.matcher(readme); block.find();) {
            if (block.group(1).startsWith("static ")) {
                methods.append(block.group(1));
            } else {
                block.group(1).lines().forEach(line -> main.append(compared(line)).append('\n'));
            }
        }
        return "public final class ReadmeExample {\n" + methods + "public static void main(String[] args) {\n" + main
                + "}\n}\n";
    }

    private static String compared(String line) {
        Matcher call = CALL.matcher(line);
        if (!call.matches()) {
            return line;
        }
        String shown = call.group(2).replace("\\", "\\\\").replace("\"", "\\\"");
        String name = call.group(1) == null ? "" : call.group(1).replaceAll("int | = ", "");
        return (name.isEmpty() ? "" : call.group(1) + call.group(2) + ";") + "ReadmeTest.due(\"" + shown + "\", "
                + (name.isEmpty() ? call.group(2) : name) + ", " + call.group(3) + ");";
    }

    private static void runExample(String source) throws Exception {
        Path folder = Files.createTempDirectory("readme");
        Path file = folder.resolve("ReadmeExample.java");
        Files.writeString(file, source);
        JavaCompiler compiler = ToolProvider.getSystemJavaCompiler();
        int exit = compiler.run(null, null, null, "-cp", System.getProperty("java.class.path"), "-d",
                folder.toString(), file.toString());
        CHECK.due("README.md's example compiles", exit, 0);
        if (exit == 0) {
            try (URLClassLoader loader = new URLClassLoader(new URL[] {folder.toUri().toURL()})) {
                loader.loadClass("ReadmeExample").getMethod("main", String[].class).invoke(null, (Object) args());
            }
        }
        for (File made : folder.toFile().listFiles()) {
            made.delete();
        }
        folder.toFile().delete();
    }

    private static String[] args() {
        return new String[0];
    }
}
