import java.io.IOException;
import java.io.OutputStream;
import java.io.PrintStream;
import java.net.URL;
import java.net.URLClassLoader;
import java.nio.file.Files;
import java.nio.file.Path;
import java.util.ArrayList;
import java.util.List;
import java.util.Set;
import java.util.TreeSet;
import java.util.concurrent.Callable;
import java.util.concurrent.ExecutorService;
import java.util.concurrent.Executors;
import java.util.concurrent.Future;
import java.util.concurrent.TimeUnit;
import java.util.concurrent.TimeoutException;
import javax.tools.ToolProvider;

/**
 * Breaks the class as breaks.txt tells, one break at a time, and looks whether the test that stands
 * for the broken sentence fails then. Called by .ci/breaks: source, breaks.txt, the classes of the
 * source and of the tests, a folder to work in; more words name tests, whose breaks alone are tried.
 */
public final class Breaks {
    private static final int SECONDS = 30;

    /** The test that must fail, and what is put into the source for it. */
    private static final class Break {
        final String test;
        final int line;
        final List<String[]> edits = new ArrayList<>();

        Break(String test, int line) {
            this.test = test;
            this.line = line;
        }
    }

    private final String source;
    private final Path tests;
    private final Path work;
    private int wrong = 0;

    private Breaks(String source, Path tests, Path work) {
        this.source = source;
        this.tests = tests;
        this.work = work;
    }

    public static void main(String[] args) throws Exception {
        PrintStream out = System.out;
        Breaks breaks = new Breaks(Files.readString(Path.of(args[0])), Path.of(args[3]), Path.of(args[4]));
        List<Break> all = read(Path.of(args[1]));
        Set<String> named = new TreeSet<>(List.of(args).subList(5, args.length));
        Set<String> tried = new TreeSet<>();
        // Tests that fail say so; here that is as it should be.
        System.setOut(new PrintStream(OutputStream.nullOutputStream()));
        for (int k = 0; k < all.size(); k++) {
            Break b = all.get(k);
            tried.add(b.test);
            if (named.isEmpty() || named.contains(b.test)) {
                breaks.attempt(b, k, out);
            }
        }
        for (String test : breaks.edges(Path.of(args[2]))) {
            if (!breaks.passes(test, Path.of(args[2]))) {
                breaks.wrong++;
                out.println(test + ": fails though nothing is broken");
            }
            if (!tried.contains(test)) {
                breaks.wrong++;
                out.println(test + ": nothing breaks it");
            }
        }
        out.println(all.size() + " breaks, " + breaks.wrong + " not as due");
        System.exit(breaks.wrong == 0 ? 0 : 1);
    }

    private static List<Break> read(Path file) throws IOException {
        List<Break> all = new ArrayList<>();
        String marker = "";
        String old = "";
        List<String> lines = Files.readAllLines(file);
        for (int k = 0; k < lines.size(); k++) {
            String line = lines.get(k);
            String rest = line.length() > 2 ? line.substring(2).replace("\\n", "\n") : "";
            if (line.startsWith("=")) {
                all.add(new Break(rest, k + 1));
                marker = "";
            } else if (line.startsWith("@")) {
                marker = rest;
            } else if (line.startsWith("-")) {
                old = rest;
            } else if (line.startsWith("+")) {
                all.get(all.size() - 1).edits.add(new String[] {marker, old, rest});
            }
        }
        return all;
    }

    private void attempt(Break b, int number, PrintStream out) throws Exception {
        String name = "line " + b.line + ", " + b.test;
        String broken = apply(b);
        if (broken == null) {
            wrong++;
            out.println(name + ": what it would change isn't in the source");
            return;
        }
        Path folder = Files.createDirectories(work.resolve(Integer.toString(number)));
        Path file = folder.resolve("TollWays.java");
        Files.writeString(file, broken);
        int compiled = ToolProvider.getSystemJavaCompiler().run(null, OutputStream.nullOutputStream(),
                OutputStream.nullOutputStream(), "-proc:none", "-d", folder.toString(), file.toString());
        if (compiled != 0) {
            wrong++;
            out.println(name + ": doesn't compile");
        } else if (passes(b.test, folder)) {
            wrong++;
            out.println(name + ": passes all the same");
        }
    }

    /** The source with all edits, each the first behind its marker; null, if one has no place. */
    private String apply(Break b) {
        String text = source;
        for (String[] edit : b.edits) {
            int from = text.indexOf(edit[0]);
            int at = from < 0 ? -1 : text.indexOf(edit[1], from);
            if (at < 0) {
                return null;
            }
            text = text.substring(0, at) + edit[2] + text.substring(at + edit[1].length());
        }
        return b.edits.isEmpty() ? null : text;
    }

    private boolean passes(String test, Path folder) throws Exception {
        String[] parts = test.split("\\.");
        URL[] classes = {folder.toUri().toURL(), tests.toUri().toURL()};
        URLClassLoader loader = new URLClassLoader(classes, ClassLoader.getPlatformClassLoader());
        Callable<Boolean> run = () -> {
            var method = loader.loadClass(parts[0]).getDeclaredMethod(parts[1]);
            var passes = loader.loadClass("Edges").getDeclaredMethod("passes", method.getClass());
            passes.setAccessible(true);
            return (Boolean) passes.invoke(null, method);
        };
        ExecutorService runner = Executors.newSingleThreadExecutor(r -> {
            Thread t = new Thread(r);
            t.setDaemon(true);
            return t;
        });
        Future<Boolean> passed = runner.submit(run);
        try {
            return passed.get(SECONDS, TimeUnit.SECONDS);
        } catch (TimeoutException e) {
            return false;
        } finally {
            runner.shutdownNow();
        }
    }

    /** Names of all tests of edges. */
    private Set<String> edges(Path whole) throws Exception {
        Set<String> names = new TreeSet<>();
        URL[] classes = {whole.toUri().toURL(), tests.toUri().toURL()};
        URLClassLoader loader = new URLClassLoader(classes, ClassLoader.getPlatformClassLoader());
        var field = loader.loadClass("EdgesDocTest").getDeclaredField("ALL");
        field.setAccessible(true);
        for (Class<?> c : (Class<?>[]) field.get(null)) {
            for (var m : c.getDeclaredMethods()) {
                for (var a : m.getAnnotations()) {
                    if (a.annotationType().getName().equals("Edge")) {
                        names.add(c.getName() + "." + m.getName());
                    }
                }
            }
        }
        return names;
    }
}
