import java.nio.file.Files;
import java.nio.file.Path;
import java.util.ArrayList;
import java.util.List;
import java.util.TreeMap;
import java.util.regex.Matcher;
import java.util.regex.Pattern;

/** What README.md shows is so: its example, its answers, and which promise each call stands under. */
final class ReadmeTest {
    private static final Due due = new Due();

    public static void main(String[] args) throws Exception {
        Path root = Path.of(System.getenv().getOrDefault("FENCED_STATES_ROOT", "."));
        String readme = Files.readString(root.resolve("README.md"));
        example();
        exampleIsTheSame(readme, Files.readString(root.resolve("src/test/java/ReadmeTest.java")));
        answers();
        promises(readme, Files.readString(root.resolve("../shared/DOC.md")));
        due.end();
    }

    private static void example() {
        FencedStates x = new FencedStates();
        x.feed(1818588276, 1701999392, 842755685, 2020876385, 539058491);
        x.feed(1852143732, 543301729, 1583496034, 1633951841, 643971840);
        x.end(39);
        int text = x.text();
        due.is("the text's number", text, 0);
        int letters = x.load(text);
        due.is("its LETTERS", letters, 2);
        int gone = x.step(500);
        due.is("STEPS", gone, 16);
        int phase = x.is(2);
        due.is("PHASE", phase, 4);
        int states = x.trace(FencedStates.NONE, 0);
        due.is("STATES of the trace", states, 4);
    }

    /** Each line of the example stands here, so that it is the one that was tried. */
    private static void exampleIsTheSame(String readme, String source) {
        int from = readme.indexOf("```java\n");
        int to = readme.indexOf("```\n", from + 8);
        due.is("there is an example", from >= 0 && to > from, true);
        for (String line : readme.substring(from + 8, to).split("\n")) {
            boolean tried = line.startsWith("//") || source.contains("        " + line + "\n");
            due.is("it is tried: " + line, tried, true);
        }
        FencedStates told = Due.of("letters 2;next a !a;next b a^b;bad a&b;");
        due.is("the text is as long as it says", "letters 2;next a !a;next b a^b;bad a&b;".length(), 39);
        due.is("the text is the one that the comment says", told.step(500), 16);
    }

    private static void answers() {
        FencedStates x = new FencedStates();
        due.is("x.drawn(7, 4)", x.drawn(7, 4), true);
        due.is("its LETTERS", x.is(0), 4);
        Due.feed(x, "bad");
        due.is("a tape at fault", x.text(), FencedStates.NONE);
        due.is("is empty then", x.about(3), 0);
        due.is("fault tells of it", x.fault(0), 1);
        due.is("MASK 2 times 64 and BITS 2", new FencedStates().widened(2, 1), 130);
        due.is("BUMP", (long) Float.intBitsToFloat(x.activity(FencedStates.NONE)), 1);
        due.is("STEPS", x.step(3), 3);
        double mean = (double) x.is(9) / x.is(8);
        due.is("the mean", Double.longBitsToDouble(x.mean()) == mean, true);
        due.is("image", x.image(), x.is(2));
        x.drawn(8, 3);
        due.is("back", x.back(), x.is(2));
    }

    /** Each call stands in the one row of its promise. */
    private static void promises(String readme, String doc) {
        TreeMap<Integer, String> documented = new TreeMap<>();
        Matcher head = Pattern.compile("## Promise (\\d+): .*\n\n`(?:\\w+ )?(\\w+)\\(").matcher(doc);
        while (head.find()) {
            documented.put(Integer.parseInt(head.group(1)), head.group(2));
        }
        due.is("promises", documented.size(), 58);
        List<String> shown = new ArrayList<>();
        int next = 1;
        Matcher row = Pattern.compile("\n\\| (\\d+)(?:-(\\d+))? \\| (`[^|]*`) \\|").matcher(readme);
        while (row.find()) {
            int from = Integer.parseInt(row.group(1));
            int to = row.group(2) == null ? from : Integer.parseInt(row.group(2));
            String[] calls = row.group(3).replace("`", "").split(" ");
            due.is("promises of a row begin", from, next);
            due.is("calls of promises " + from + " to " + to, calls.length, to - from + 1);
            shown.addAll(List.of(calls));
            next = to + 1;
        }
        due.is("the rows are " + shown + ", the document has " + documented.values(),
            shown.equals(new ArrayList<>(documented.values())), true);
    }
}
