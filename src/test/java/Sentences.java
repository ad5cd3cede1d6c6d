import java.io.IOException;
import java.nio.file.Files;
import java.nio.file.Path;
import java.util.ArrayList;
import java.util.Comparator;
import java.util.LinkedHashMap;
import java.util.List;
import java.util.Map;

/** Sentences of the document, as they stand there, each with answers of its own. */
final class Sentences {
    private static final Path DOCUMENT = Path.of("../shared/DOC.md");

    private final Check check;
    private final Map<String, Integer> answers = new LinkedHashMap<>();
    private String sentence = "";

    Sentences(Check check) {
        this.check = check;
    }

    /** What is asked from here on is asked for this sentence. */
    void of(String sentence) {
        this.sentence = sentence;
        answers.putIfAbsent(sentence, 0);
    }

    void due(String call, long got, long want) {
        answers.merge(sentence, 1, Integer::sum);
        check.due("'" + sentence + "': " + call, got, want);
    }

    /** The fault of a text, asked twice; and book() takes the text just if there is none. */
    void faultDue(String text, int want) {
        NinePence x = new NinePence();
        Check.tell(x, text);
        due("fault of '" + text + "'", x.fault(), want);
        due("fault again of '" + text + "'", x.fault(), want);
        if (want == NinePence.NONE) {
            due("book of '" + text + "'", x.book() > 0 ? 1 : 0, 1);
            due("bytes behind book of '" + text + "'", x.count(1), 0);
        } else {
            due("book of '" + text + "'", x.book(), NinePence.NOT);
            due("bytes behind book of '" + text + "'", x.count(1), text.length());
        }
    }

    /** Each sentence must stand in the document and have an answer; what else the document promises is told. */
    void finish() throws IOException {
        for (Map.Entry<String, Integer> asked : answers.entrySet()) {
            check.due("answers for '" + asked.getKey() + "'", asked.getValue() > 0 ? 1 : 0, 1);
        }
        if (!Files.exists(DOCUMENT)) {
            System.out.println("EdgeTest: no document, so its sentences were not compared with it");
            return;
        }
        String left = promises(Files.readString(DOCUMENT));
        for (String asked : answers.keySet()) {
            check.due("the document has '" + asked + "'", left.contains(asked) ? 1 : 0, 1);
        }
        // A short one may stand inside of a longer one.
        List<String> longestFirst = new ArrayList<>(answers.keySet());
        longestFirst.sort(Comparator.comparingInt(String::length).reversed());
        for (String asked : longestFirst) {
            left = left.replace(asked, "|");
        }
        left = left.replaceAll("[|\\s]+", " ").trim();
        check.due("sentences of the document without an answer: " + left, left.length(), 0);
        System.out.println("EdgeTest: " + answers.size() + " sentences");
    }

    // The terms begin in the first section, ahead of the face; headings and signatures are no sentences.
    private static String promises(String document) {
        String plain = document.replaceAll("(?m)^#+ .*$", "|").replaceAll("(?s)```java.*?```", "|").replaceAll("(?m)^(```.*|Ahead of .*)$", "")
            .replaceAll("(?m)^`[^`]*`: ", "|").replaceAll("={8} \\d", "");
        int from = plain.indexOf("ENTRIES are 30");
        int to = plain.indexOf("How the state is held");
        return plain.substring(Math.max(from, 0), to < 0 ? plain.length() : to).replaceAll("[|\\s]*\\|[|\\s]*", "|").replaceAll("\\s+", " ");
    }
}
