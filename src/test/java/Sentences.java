import java.io.IOException;
import java.nio.file.Files;
import java.nio.file.Path;
import java.util.Map;
import java.util.TreeMap;

/**
 * Which sentence of the document a test is about. A sentence must stand in the document under its heading, and end() asks
 * that no sentence of the headings that were named is left without a test.
 */
final class Sentences {
    static final String WHAT_IT_IS = "What it is";
    static final String TEXT = "Terms: A TEXT";
    static final String TONES = "Terms: ==== 2.";
    static final String CODES = "Terms: ==== 3.";

    private static final String DOC = read();
    /** By heading: its text, with a # in the place of each sign that a test has named. */
    private static final Map<String, StringBuilder> LEFT = new TreeMap<>();

    private Sentences() {
    }

    private static String read() {
        try {
            return Files.readString(Path.of("../shared/DOC.md")).replaceAll("```(text)?", " ").replaceAll("\\s+", " ");
        } catch (IOException e) {
            throw new IllegalStateException("the document isn't there", e);
        }
    }

    private static String between(String from, String to) {
        int begin = DOC.indexOf(from) + from.length();
        int end = DOC.indexOf(to, begin);
        return DOC.substring(begin, end < 0 ? DOC.length() : end).trim();
    }

    private static String under(String heading) {
        switch (heading) {
            case WHAT_IT_IS:
                return between("==== 1.", " ## ");
            case TEXT:
                return between("## Terms ", "==== 2.");
            case TONES:
                return between("==== 2.", "==== 3.");
            case CODES:
                return between("==== 3.", "The constants: ");
            default:
                String all = between("## " + heading + ": ", " ## ");
                return all.substring(all.indexOf("`: ") + 3);
        }
    }

    /** A sentence of a promise. */
    static void of(int promise, String sentence) {
        of("Promise " + promise, sentence);
    }

    static void of(String heading, String sentence) {
        String all = under(heading);
        Checks.about(heading + ", '" + sentence + "'");
        int at = all.indexOf(sentence);
        Checks.holds("it stands in the document", at >= 0);
        StringBuilder left = LEFT.computeIfAbsent(heading, h -> new StringBuilder(all));
        for (int i = at; at >= 0 && i < at + sentence.length(); i++) {
            left.setCharAt(i, '#');
        }
    }

    static void end(String test) {
        for (Map.Entry<String, StringBuilder> one : LEFT.entrySet()) {
            Checks.about(one.getKey());
            String left = one.getValue().toString().replaceAll("#+", "#").replaceAll("#[ .,;:()]*(?=#|$)", "");
            Checks.holds("no sentence is left without a test: " + left, left.replaceAll("[# .,;:()]", "").isEmpty());
        }
        Checks.end(test);
    }
}
