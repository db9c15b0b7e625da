import java.io.File;
import java.io.OutputStream;
import java.io.PrintStream;
import java.lang.reflect.InvocationTargetException;
import java.lang.reflect.Method;
import java.net.URL;
import java.net.URLClassLoader;
import java.nio.file.Files;
import java.nio.file.Path;
import java.util.ArrayList;
import java.util.Comparator;
import java.util.List;
import java.util.TreeSet;
import java.util.concurrent.ExecutorService;
import java.util.concurrent.Executors;
import java.util.concurrent.Future;
import java.util.stream.Collectors;
import java.util.stream.Stream;
import javax.tools.ToolProvider;

/**
 * Breaks the document's sentences one by one, as sentences.txt tells, in a copy of the class: the test that is told with a
 * sentence must fail then. The source's path is the argument.
 */
public final class BrokenTest {
    /** One way to break a sentence: lines of the source, what stands there instead, the test that must see it. */
    private static final class Break {
        String heading;
        String sentence;
        String test;
        final List<String> old = new ArrayList<>();
        final List<String> instead = new ArrayList<>();

        String name() {
            return heading + ", " + sentence + ", by " + instead + " (" + test + ")";
        }
    }

    private static final int PROMISES = 33;

    private final List<String> source;
    private final Path work;
    private final Path tests;

    private BrokenTest(List<String> source, Path work) {
        this.source = source;
        this.work = work;
        tests = work.resolve("tests");
    }

    public static void main(String[] args) throws Exception {
        Path file = Path.of(args.length > 0 ? args[0] : "src/main/java/DewWages.java");
        Path root = file.toAbsolutePath().normalize().getParent().getParent().getParent();
        Path work = Files.createTempDirectory("broken");
        try {
            BrokenTest test = new BrokenTest(Files.readAllLines(file), work);
            List<Break> breaks = read(Files.readAllLines(root.resolve("test/sentences.txt")));
            test.compileTests(root.resolve("test/java"), file);
            test.runAll(breaks);
            eachPromiseIsThere(breaks);
        } finally {
            delete(work);
        }
        Checks.finish();
    }

    /** "= heading", "* Test: sentence", then lines "- " of the source and "+ " instead of them, once or more. */
    static List<Break> read(List<String> lines) {
        List<Break> breaks = new ArrayList<>();
        String heading = "";
        String[] sentence = {"", ""};
        Break now = null;
        for (String line : lines) {
            String rest = line.length() > 2 ? line.substring(2).strip() : "";
            if (line.startsWith("= ")) {
                heading = rest;
            } else if (line.startsWith("* ")) {
                sentence = rest.split(": ", 2);
                now = null;
            } else if (line.startsWith("-")) {
                if (now == null || !now.instead.isEmpty()) {
                    now = new Break();
                    now.heading = heading;
                    now.test = sentence[0];
                    now.sentence = sentence[1];
                    breaks.add(now);
                }
                now.old.add(rest);
            } else if (line.startsWith("+") && now != null) {
                now.instead.add(rest);
            }
        }
        return breaks;
    }

    private static void eachPromiseIsThere(List<Break> breaks) {
        TreeSet<String> headings = breaks.stream().map(b -> b.heading).collect(Collectors.toCollection(TreeSet::new));
        for (int promise = 1; promise <= PROMISES; promise++) {
            String start = "Promise " + promise + ":";
            Checks.is("sentences of promise " + promise, headings.stream().anyMatch(h -> h.startsWith(start)), true);
        }
    }

    private void compileTests(Path java, Path file) throws Exception {
        Files.createDirectories(tests);
        List<String> files = new ArrayList<>(List.of(file.toString()));
        for (File test : java.toFile().listFiles((dir, name) -> name.endsWith(".java"))) {
            files.add(test.getPath());
        }
        Checks.is("the tests compile", compile(tests, files), true);
        for (File old : tests.toFile().listFiles((dir, name) -> name.matches("DewWages(\\$.*)?\\.class"))) {
            Files.delete(old.toPath());
        }
    }

    private static boolean compile(Path out, List<String> files) {
        List<String> all = new ArrayList<>(List.of("-encoding", "UTF-8", "-proc:none", "-nowarn", "-d", out.toString()));
        all.addAll(files);
        return ToolProvider.getSystemJavaCompiler().run(null, null, null, all.toArray(new String[0])) == 0;
    }

    private void runAll(List<Break> breaks) throws Exception {
        ExecutorService pool = Executors.newFixedThreadPool(Math.max(2, Runtime.getRuntime().availableProcessors()));
        PrintStream out = System.out;
        System.setOut(new PrintStream(OutputStream.nullOutputStream()));
        System.setProperty(Checks.STAY, "true");
        List<Future<String>> told = new ArrayList<>();
        for (int i = 0; i < breaks.size(); i++) {
            Break b = breaks.get(i);
            Path folder = work.resolve("broken" + i);
            told.add(pool.submit(() -> sees(b, folder)));
        }
        List<String> answers = new ArrayList<>();
        for (Future<String> answer : told) {
            answers.add(answer.get());
        }
        pool.shutdown();
        System.clearProperty(Checks.STAY);
        System.setOut(out);
        for (int i = 0; i < breaks.size(); i++) {
            if (!answers.get(i).isEmpty()) {
                System.out.println(answers.get(i) + ": " + breaks.get(i).name());
            }
            Checks.is("break " + i, answers.get(i).isEmpty(), true);
        }
    }

    /** Empty when the test fails with the broken class, else what went wrong. */
    private String sees(Break b, Path folder) throws Exception {
        int place = placeOf(b);
        if (place < 0) {
            return "not in the source, or not once";
        }
        List<String> lines = new ArrayList<>(source.subList(0, place));
        lines.addAll(b.instead);
        lines.addAll(source.subList(place + b.old.size(), source.size()));
        Files.createDirectories(folder);
        Path file = folder.resolve("DewWages.java");
        Files.write(file, lines);
        if (!compile(folder, List.of(file.toString()))) {
            return "does not compile";
        }
        URL[] path = {folder.toUri().toURL(), tests.toUri().toURL()};
        try (URLClassLoader loader = new URLClassLoader(path, ClassLoader.getPlatformClassLoader())) {
            return fails(loader, b.test) ? "" : "is not seen";
        }
    }

    private static boolean fails(URLClassLoader loader, String test) throws Exception {
        try {
            loader.loadClass(test).getMethod("main", String[].class).invoke(null, (Object) new String[0]);
        } catch (InvocationTargetException e) {
            return true;
        }
        Method wrongs = loader.loadClass("Checks").getDeclaredMethod("wrongs");
        wrongs.setAccessible(true);
        return (int) wrongs.invoke(null) > 0;
    }

    /** Where these lines stand in the source, one behind the other; -1 when they don't, or more than once. */
    private int placeOf(Break b) {
        int place = -1;
        for (int i = 0; i + b.old.size() <= source.size(); i++) {
            boolean same = true;
            for (int k = 0; k < b.old.size(); k++) {
                same = same && source.get(i + k).strip().equals(b.old.get(k));
            }
            if (same && place >= 0) {
                return -1;
            }
            place = same ? i : place;
        }
        return place;
    }

    private static void delete(Path folder) throws Exception {
        try (Stream<Path> all = Files.walk(folder)) {
            for (Path path : all.sorted(Comparator.reverseOrder()).collect(Collectors.toList())) {
                Files.delete(path);
            }
        }
    }
}
