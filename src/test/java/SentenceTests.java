import java.io.IOException;
import java.nio.file.Files;
import java.nio.file.Path;
import java.util.Arrays;
import java.util.List;
import java.util.Map;
import java.util.TreeMap;

/**
 * A test of each sentence of ../shared/DOC.md, above all of those that name a boundary case; what each is of is printed.
 * Each sentence that a test names must stand in the document, and none of the document's may be without a test.
 */
public final class SentenceTests extends Checks {
    private static final int TERMS = 0;

    private SentenceTests() { }

    /** The text of 'Terms' (0) and of each promise, without what the calls look like. */
    private static Map<Integer, String> parts(String doc) {
        Map<Integer, String> parts = new TreeMap<>();
        for (String part : doc.split("\n## ")) {
            String[] of = part.split("\n", 2);
            if (of[0].equals("Terms")) {
                String text = of[1].replaceAll("Ahead of the calls [^\n]*", "").replace("======== 1 ", "").replace("======== 2 ", "");
                parts.put(TERMS, oneLine(text.replace("```text", "").replace("```", "")));
            } else if (of[0].startsWith("Promise ")) {
                parts.put(Integer.valueOf(of[0].replaceAll("Promise ([0-9]+):.*", "$1")), oneLine(of[1].replaceAll("`[^`]*`: ", "")));
            }
        }
        return parts;
    }

    private static String oneLine(String text) {
        return text.replaceAll("\\s+", " ").trim();
    }

    private static int missing(String doc) {
        Map<Integer, String> parts = parts(doc);
        Map<Integer, char[]> untested = new TreeMap<>();
        parts.forEach((number, text) -> untested.put(number, text.toCharArray()));
        int missing = 0;
        for (Map.Entry<Integer, List<String>> tested : TESTED.entrySet()) {
            for (String sentence : tested.getValue()) {
                int part = parts.getOrDefault(tested.getKey(), "").contains(sentence) ? tested.getKey() : TERMS;
                int place = parts.getOrDefault(part, "").indexOf(sentence);
                if (place < 0) {
                    missing++;
                    System.out.println("promise " + tested.getKey() + ": \"" + sentence + "\" does not stand in the document");
                } else {
                    Arrays.fill(untested.get(part), place, place + sentence.length(), ' ');
                }
            }
        }
        for (Map.Entry<Integer, char[]> left : untested.entrySet()) {
            String words = oneLine(new String(left.getValue()));
            if (words.matches(".*[A-Za-z0-9].*")) {
                missing++;
                System.out.println((left.getKey() == TERMS ? "Terms" : "promise " + left.getKey()) + ": no test is of \"" + words + "\"");
            }
        }
        System.out.println("sentences of " + (parts.size() - 1) + " promises and of 'Terms': " + missing + " without a test, or not in the document");
        return missing;
    }

    public static void main(String[] args) throws IOException {
        TermSentences.all();
        PromiseSentences.all();
        RefusalSentences.all();
        int wrong = end();
        Path doc = Path.of("../shared/DOC.md");
        if (Files.exists(doc)) {
            wrong += missing(Files.readString(doc));
        } else {
            System.out.println(doc + " is not there: the sentences were tested, but not looked up");
        }
        if (wrong != 0) {
            System.exit(1);
        }
    }
}
