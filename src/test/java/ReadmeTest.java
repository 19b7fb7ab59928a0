import java.io.ByteArrayOutputStream;
import java.io.File;
import java.io.IOException;
import java.io.PrintStream;
import java.lang.reflect.Method;
import java.net.URL;
import java.net.URLClassLoader;
import java.nio.charset.StandardCharsets;
import java.nio.file.Files;
import java.nio.file.Path;
import java.util.ArrayList;
import java.util.List;
import java.util.stream.Stream;
import javax.tools.JavaCompiler;
import javax.tools.StandardJavaFileManager;
import javax.tools.ToolProvider;

/** Whether README.md still tells what is: its example compiles and prints what it says, no test or call is left out. */
public final class ReadmeTest {
    private static final String ANSWER = "System.out.println(";

    private ReadmeTest() {
    }

    public static void main(String[] args) throws Exception {
        String page = Files.readString(Path.of("README.md"));
        for (String test : testNames()) {
            Due.yes("README.md names " + test, page.contains("`" + test + "`"));
        }
        for (Method call : SalePart.class.getDeclaredMethods()) {
            if (java.lang.reflect.Modifier.isPublic(call.getModifiers())) {
                Due.yes("README.md names " + call.getName() + "()", page.contains("`" + call.getName() + "`"));
            }
        }
        String example = between(page, "```java\n", "```");
        List<String> told = toldAnswers(example);
        Due.yes("README.md tells answers", !told.isEmpty());
        List<String> printed = run(example);
        Due.same("lines that the example prints", told.size(), printed.size());
        for (int i = 0; i < Math.min(told.size(), printed.size()); i++) {
            Due.yes("the example prints " + printed.get(i) + ", README.md tells " + told.get(i),
                    told.get(i).equals(printed.get(i)));
        }
        Due.end();
    }

    private static List<String> testNames() throws IOException {
        try (Stream<Path> files = Files.list(Path.of("src/test/java"))) {
            return files.map(f -> f.getFileName().toString()).filter(f -> f.endsWith("Test.java"))
                    .map(f -> f.substring(0, f.length() - ".java".length())).sorted().toList();
        }
    }

    private static String between(String page, String first, String last) {
        int start = page.indexOf(first) + first.length();
        return page.substring(start, page.indexOf(last, start));
    }

    private static List<String> toldAnswers(String example) {
        List<String> told = new ArrayList<>();
        for (String line : example.split("\n")) {
            if (line.contains(ANSWER)) {
                told.add(line.substring(line.lastIndexOf("//") + 2).strip());
            }
        }
        return told;
    }

    private static List<String> run(String example) throws Exception {
        Path folder = Files.createTempDirectory("readme");
        try {
            Path file = Files.writeString(folder.resolve("Example.java"), example);
            compile(folder, file);
            return outputOf(folder);
        } finally {
            for (File made : folder.toFile().listFiles()) {
                made.delete();
            }
            folder.toFile().delete();
        }
    }

    private static void compile(Path folder, Path file) throws IOException {
        JavaCompiler compiler = ToolProvider.getSystemJavaCompiler();
        try (StandardJavaFileManager files = compiler.getStandardFileManager(null, null, null)) {
            boolean done = compiler.getTask(null, files, null, List.of("-d", folder.toString()), null,
                    files.getJavaFileObjects(new File("src/main/java/SalePart.java"), file.toFile())).call();
            Due.yes("the example compiles", done);
        }
    }

    private static List<String> outputOf(Path folder) throws Exception {
        PrintStream screen = System.out;
        ByteArrayOutputStream printed = new ByteArrayOutputStream();
        URL[] places = {folder.toUri().toURL()};
        try (URLClassLoader loader = new URLClassLoader(places, ClassLoader.getPlatformClassLoader())) {
            System.setOut(new PrintStream(printed, true, StandardCharsets.UTF_8));
            loader.loadClass("Example").getMethod("main", String[].class).invoke(null, (Object) new String[0]);
        } finally {
            System.setOut(screen);
        }
        return printed.toString(StandardCharsets.UTF_8).lines().toList();
    }
}
