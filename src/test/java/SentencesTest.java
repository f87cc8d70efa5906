import java.io.IOException;
import java.nio.file.DirectoryStream;
import java.nio.file.Files;
import java.nio.file.Path;
import java.util.ArrayList;
import java.util.List;
import java.util.Map;
import java.util.TreeMap;
import java.util.regex.Matcher;
import java.util.regex.Pattern;

/** Each sentence of the document has a test that names it word for word, and no test names one that is not there. */
public final class SentencesTest {
    private static final Path DOCUMENT = Path.of("../shared/DOC.md");
    private static final Path TESTS = Path.of("src/test/java");

    public static void main(String[] args) throws IOException {
        Map<Integer, String> document = promises(Files.readString(DOCUMENT));
        Map<Integer, List<String>> named = namedSentences();
        Due.is("promises", document.size(), 39);
        for (int promise : document.keySet()) {
            List<String> quotes = named.getOrDefault(promise, new ArrayList<>());
            for (String quote : quotes) {
                Due.is("promise " + promise + " says '" + quote + "'", document.get(promise).contains(quote), true);
            }
            for (String rest : notNamed(document.get(promise), quotes)) {
                Due.is("promise " + promise + ": no test names '" + rest + "'", 1, 0);
            }
        }
        Due.finish();
    }

    /** The text of each promise without its signature, 0: the terms. */
    private static Map<Integer, String> promises(String all) {
        Map<Integer, String> found = new TreeMap<>();
        String terms = all.substring(all.indexOf("## Terms"), all.indexOf("Ahead of the calls"));
        found.put(0, onOneLine(terms.substring("## Terms".length())));
        Matcher m = Pattern.compile("## Promise (\\d+): .*\\n\\n`[^`]*`: (.*)\\n").matcher(all);
        while (m.find()) {
            found.put(Integer.parseInt(m.group(1)), m.group(2).trim());
        }
        return found;
    }

    private static String onOneLine(String text) {
        return text.replace("```text", " ").replace("```", " ").replaceAll("(?m)^\\d+\\. ", "").replaceAll("\\s+", " ")
            .trim();
    }

    private static Map<Integer, List<String>> namedSentences() throws IOException {
        Map<Integer, List<String>> found = new TreeMap<>();
        try (DirectoryStream<Path> files = Files.newDirectoryStream(TESTS, "EdgesOf*Test.java")) {
            for (Path file : files) {
                Matcher m = Pattern.compile("Bound\\.says\\((\\d+), \"([^\"]*)\"\\);").matcher(Files.readString(file));
                while (m.find()) {
                    found.computeIfAbsent(Integer.parseInt(m.group(1)), k -> new ArrayList<>()).add(m.group(2));
                }
            }
        }
        return found;
    }

    /** The parts of a text that no quote covers, but for blanks and signs between. */
    private static List<String> notNamed(String text, List<String> quotes) {
        StringBuilder left = new StringBuilder(text);
        for (String quote : quotes) {
            for (int at = text.indexOf(quote); at >= 0; at = text.indexOf(quote, at + 1)) {
                for (int i = at; i < at + quote.length(); i++) {
                    left.setCharAt(i, '\n');
                }
            }
        }
        List<String> rest = new ArrayList<>();
        for (String part : left.toString().split("\n+")) {
            if (part.matches(".*[A-Za-z0-9].*")) {
                rest.add(part);
            }
        }
        return rest;
    }
}
