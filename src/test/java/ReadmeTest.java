import java.io.File;
import java.net.URL;
import java.net.URLClassLoader;
import java.nio.file.Files;
import java.nio.file.Path;
import java.util.List;
import java.util.regex.Matcher;
import java.util.regex.Pattern;
import javax.tools.ToolProvider;

/** README.md's examples: each call that tells its answer must give it. The source's path is the argument. */
public final class ReadmeTest {
    private static final Pattern BLOCK = Pattern.compile("(?s)```java\n(.*?)```");
    private static final Pattern TOLD = Pattern.compile("(?m)^(x\\.[a-z]+\\(.*\\)); *// (-?[0-9]+|true|false)\\b.*$");

    public static void main(String[] args) throws Exception {
        String source = args.length > 0 ? args[0] : "src/main/java/DewWages.java";
        Path root = Path.of(source).toAbsolutePath().getParent().getParent().getParent().getParent();
        run(program(Files.readString(root.resolve("README.md"))));
        Checks.finish();
    }

    /** Blocks that begin with a comment are helpers; the others are the steps of one method, in their order. */
    private static String program(String readme) {
        StringBuilder helpers = new StringBuilder();
        StringBuilder steps = new StringBuilder();
        Matcher block = BLOCK.matcher(readme);
        while (block.find()) {
            String code = block.group(1);
            boolean isHelper = code.startsWith("/**");
            (isHelper ? helpers : steps).append(isHelper ? code : checked(code));
        }
        return "public final class ReadmeExample {\n"
            + "public static final java.util.List<String[]> TOLD = new java.util.ArrayList<>();\n" + helpers
            + "public static void main(String[] args) {\n" + steps + "}\n}\n";
    }

    private static String checked(String code) {
        return TOLD.matcher(code).replaceAll(told -> Matcher.quoteReplacement(
            "TOLD.add(new String[] {\"" + told.group(1) + "\", String.valueOf(" + told.group(1) + "), \"" + told.group(2) + "\"});"));
    }

    private static void run(String program) throws Exception {
        Path folder = Files.createTempDirectory("readme");
        Path file = folder.resolve("ReadmeExample.java");
        Files.writeString(file, program);
        String path = System.getProperty("java.class.path");
        int failed = ToolProvider.getSystemJavaCompiler().run(null, null, null, "-cp", path, "-d", folder.toString(),
            file.toString());
        Checks.is("README.md's examples compile", failed, 0);
        if (failed == 0) {
            URL[] urls = {folder.toUri().toURL()};
            try (URLClassLoader loader = new URLClassLoader(urls, ReadmeTest.class.getClassLoader())) {
                Class<?> example = loader.loadClass("ReadmeExample");
                example.getMethod("main", String[].class).invoke(null, (Object) new String[0]);
                compare((List<?>) example.getField("TOLD").get(null));
            }
        }
        for (File each : folder.toFile().listFiles()) {
            Files.delete(each.toPath());
        }
        Files.delete(folder);
    }

    /** Rows of a call, what it answered, what the page says. */
    private static void compare(List<?> told) {
        for (Object each : told) {
            String[] row = (String[]) each;
            Checks.is("README.md: " + row[0], number(row[1]), number(row[2]));
        }
        Checks.is("README.md tells answers", told.size() > 9, true);
    }

    private static long number(String told) {
        return told.equals("true") ? 1 : told.equals("false") ? 0 : Long.parseLong(told);
    }
}
