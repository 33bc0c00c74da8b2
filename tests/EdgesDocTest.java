import java.lang.reflect.Method;
import java.nio.file.Files;
import java.nio.file.Path;
import java.util.ArrayList;
import java.util.List;
import java.util.regex.Matcher;
import java.util.regex.Pattern;

/** What the edges quote stands in the document, and no refusal of a promise is left without one. */
public final class EdgesDocTest {
    static final Class<?>[] ALL = {EdgesToldTest.class, EdgesTextTest.class, EdgesWaysTest.class,
        EdgesThoughtTest.class, EdgesRowsTest.class};
    private static final Pattern REFUSAL =
            Pattern.compile("\\b(NONE|BAD|STATE|FULL|OVER|NO|NOTHING|BEYOND|BELOW|UNLIKE)\\b");

    public static void main(String[] args) throws Exception {
        String doc = Files.readString(Path.of(System.getProperty("doc", "../shared/DOC.md")))
                .replaceAll("\\s+", " ");
        String[] parts = doc.split("## Promise \\d+: ");
        Check.due("promises", 44, parts.length - 1);
        for (int promise = 1; promise < parts.length; promise++) {
            checkPromise(promise, parts[promise].split(" ## ")[0], parts[0]);
        }
        Check.finish();
    }

    private static void checkPromise(int promise, String text, String terms) {
        List<String> quotes = quotesOf(promise);
        Check.that("promise " + promise + " has a test of an edge", !quotes.isEmpty());
        boolean[] isQuoted = new boolean[text.length()];
        for (String quote : quotes) {
            Check.that("promise " + promise + " or the terms say: " + quote,
                    text.contains(quote) || terms.contains(quote));
            mark(text, quote, isQuoted);
        }
        Matcher refusal = REFUSAL.matcher(text.substring(text.indexOf("`: ")));
        while (refusal.find()) {
            Check.that("promise " + promise + ": a test quotes its " + refusal.group(),
                    isQuoted[text.indexOf("`: ") + refusal.start()]);
        }
    }

    private static List<String> quotesOf(int promise) {
        List<String> quotes = new ArrayList<>();
        for (Class<?> tests : ALL) {
            for (Method test : Edges.of(tests)) {
                Edge edge = test.getAnnotation(Edge.class);
                if (edge.promise() == promise) {
                    quotes.add(edge.says());
                }
            }
        }
        return quotes;
    }

    private static void mark(String text, String quote, boolean[] isQuoted) {
        int from = text.indexOf("`: ");
        for (int at = text.indexOf(quote, from); at >= 0; at = text.indexOf(quote, at + 1)) {
            for (int k = at; k < at + quote.length(); k++) {
                isQuoted[k] = true;
            }
        }
    }
}
