import java.io.IOException;
import java.lang.reflect.Method;
import java.nio.file.Files;
import java.nio.file.Path;
import java.util.List;
import java.util.Map;
import java.util.TreeMap;
import java.util.TreeSet;

/** Every word of the document's terms and promises is quoted by a test, and no test quotes what does not stand there. */
public final class SentencesTest {
    private static final Path DOCUMENT = Path.of("../shared/DOC.md");
    private static final Class<?>[] TESTS = {
        TapeBoundaryTest.class, HandBoundaryTest.class, PairBoundaryTest.class, PenBoundaryTest.class,
        SheetBoundaryTest.class};

    private static final Due DUE = new Due("SentencesTest");

    public static void main(String[] args) throws IOException {
        Map<String, String> chapters = chapters(Files.readString(DOCUMENT));
        TreeSet<String> quotes = quotes();
        for (String quote : quotes) {
            boolean stands = chapters.values().stream().anyMatch(text -> text.contains(quote));
            DUE.isTrue("stands in the document: " + quote, stands);
        }
        chapters.forEach((name, text) -> {
            for (String rest : unquoted(text, quotes)) {
                DUE.isTrue(name + ", no test is about: " + rest, rest.isBlank());
            }
        });
        DUE.is("promises", chapters.keySet().stream().filter(name -> name.startsWith("Promise ")).count(), 40);
        DUE.close();
    }

    private static TreeSet<String> quotes() {
        TreeSet<String> quotes = new TreeSet<>();
        for (Class<?> test : TESTS) {
            for (Method m : Boundary.testsOf(test)) {
                quotes.addAll(List.of(m.getAnnotation(Sentence.class).value()));
            }
        }
        return quotes;
    }

    /** The chapters that say what must hold, each in one line, without what only tells where calls stand. */
    private static Map<String, String> chapters(String document) {
        Map<String, String> chapters = new TreeMap<>();
        for (String chapter : document.split("\n## ")) {
            int head = Math.max(chapter.indexOf('\n'), 0);
            String name = chapter.substring(0, head);
            if (name.startsWith("Promise ") || name.equals("Terms") || name.equals("What it is")) {
                String text = chapter.substring(head)
                    .replaceAll("(?m)^(Wed by their hand: |Ahead of the calls ).*$", "")
                    .replaceAll("```(text)?", "")
                    .replaceAll("`[^`]*`: ", "");
                chapters.put(name, text.replaceAll("\\s+", " ").trim());
            }
        }
        return chapters;
    }

    private static String[] unquoted(String text, TreeSet<String> quotes) {
        StringBuilder rest = new StringBuilder(text);
        for (String quote : quotes) {
            for (int at = text.indexOf(quote); at >= 0; at = text.indexOf(quote, at + 1)) {
                for (int i = at; i < at + quote.length(); i++) {
                    rest.setCharAt(i, '\n');
                }
            }
        }
        return rest.toString().split("\n+");
    }
}
