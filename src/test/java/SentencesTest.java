import java.nio.file.DirectoryStream;
import java.nio.file.Files;
import java.nio.file.Path;
import java.util.ArrayList;
import java.util.List;
import java.util.Map;
import java.util.TreeMap;
import java.util.regex.Matcher;
import java.util.regex.Pattern;

/** Each sentence of the document's promises, and of its terms, is named by a test; and what tests name stands there. */
final class SentencesTest {
    private static final Pattern NAMED =
        Pattern.compile("due\\.sentence\\((\\d+), (\"(?:[^\"\\\\]|\\\\.)*\"(?:\\s*\\+\\s*\"(?:[^\"\\\\]|\\\\.)*\")*)\\);");
    private static final Pattern PROMISE = Pattern.compile("## Promise (\\d+): .*?\n\n`[^`]*`: (.*?)\n\n", Pattern.DOTALL);
    /** A full stop, which none of the two of '..' is. */
    private static final String ENDS = "(?<=[^.]\\.)\\s+(?=[A-Z0-9{-])";

    private static final Due due = new Due();

    public static void main(String[] args) throws Exception {
        Path root = Path.of(System.getenv().getOrDefault("FENCED_STATES_ROOT", "."));
        Map<Integer, String> said = said(Files.readString(root.resolve("../shared/DOC.md")));
        Map<Integer, List<String>> named = new TreeMap<>();
        try (DirectoryStream<Path> files = Files.newDirectoryStream(root.resolve("src/test/java"), "*Test.java")) {
            for (Path file : files) {
                names(Files.readString(file), named);
            }
        }
        due.is("promises", said.size(), 59);
        for (int promise : said.keySet()) {
            held(promise, said.get(promise), named.getOrDefault(promise, List.of()));
        }
        due.end();
    }

    private static String plain(String text) {
        // the heads of the parts are no sentences
        return text.replace("```text", "").replace("```", "").replaceAll("==== I+\\.", "").replace("A STEP.", "").trim().replaceAll("\\s+", " ");
    }

    /** What stands under 'Terms' (0) and under each promise. */
    private static Map<Integer, String> said(String doc) {
        Map<Integer, String> said = new TreeMap<>();
        int terms = doc.indexOf("==== I.");
        said.put(0, plain(doc.substring(terms, doc.indexOf("The constants:", terms))));
        Matcher m = PROMISE.matcher(doc);
        while (m.find()) {
            said.put(Integer.parseInt(m.group(1)), plain(m.group(2)));
        }
        return said;
    }

    private static void names(String source, Map<Integer, List<String>> named) {
        Matcher m = NAMED.matcher(source);
        while (m.find()) {
            String words = m.group(2).replaceAll("\"\\s*\\+\\s*\"", "");
            named.computeIfAbsent(Integer.parseInt(m.group(1)), k -> new ArrayList<>())
                .add(words.substring(1, words.length() - 1));
        }
    }

    private static void held(int promise, String said, List<String> named) {
        for (String words : named) {
            due.is("it stands under promise " + promise + ": " + words, said.contains(words), true);
        }
        for (String sentence : said.split(ENDS)) {
            boolean tested = named.stream().anyMatch(words -> sentence.contains(words) || words.contains(sentence));
            due.is("a test names of promise " + promise + ": " + sentence, tested, true);
        }
    }
}
