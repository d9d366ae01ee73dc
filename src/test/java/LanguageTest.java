import java.nio.file.Files;
import java.nio.file.Path;
import java.util.Arrays;
import java.util.List;
import java.util.regex.Matcher;
import java.util.regex.Pattern;

/** What of LANGUAGE.md can be seen in the words of the source alone. Run from the project's directory. */
public final class LanguageTest {
    private static final List<String> BANNED = Arrays.asList("throw", "throws", "try", "catch", "synchronized", "assert",
        "protected", "Exception", "var", "new Object", "hashCode", "System.out", "String.valueOf", "Exact");

    private static String withoutComments(String source) {
        return source.replaceAll("(?s)/\\*.*?\\*/", "").replaceAll("//[^\n]*", "");
    }

    private static void bannedWords(String code) {
        for (String word : BANNED) {
            Checks.holds("no " + word, !Pattern.compile("\\b" + Pattern.quote(word) + "\\b").matcher(code).find());
        }
        Checks.holds("no lambda", !code.contains("->"));
        Checks.holds("no method reference", !code.contains("::"));
        Checks.holds("no package", !Pattern.compile("(?m)^package\\b").matcher(code).find());
        Matcher imports = Pattern.compile("(?m)^import ([^;]+);").matcher(code);
        while (imports.find()) {
            Checks.holds("import " + imports.group(1), imports.group(1).equals("java.util.Arrays"));
        }
        for (char c : code.toCharArray()) {
            if (c > 126) {
                Checks.due("a sign above 126", c, 0);
            }
        }
    }

    private static void methods(String code) {
        Matcher heads = Pattern.compile("(?m)^( {4}| {8})(public|private)[^=;{}]*\\(([^)]*)\\) \\{$").matcher(code);
        int many = 0;
        while (heads.find()) {
            many++;
            String parameters = heads.group(3);
            Checks.holds(heads.group() + " has seven parameters at most", parameters.split(",").length <= 7);
            int end = code.indexOf("\n" + heads.group(1) + "}\n", heads.end());
            long lines = code.substring(heads.start(), end).lines().count();
            Checks.holds(heads.group().trim() + " is short: " + lines, lines <= 60);
        }
        Checks.holds("methods are found", many > 100);
    }

    public static void main(String[] args) throws Exception {
        String code = withoutComments(Files.readString(Path.of("src/main/java/OrnamentsOut.java")));
        bannedWords(code);
        methods(code);
        long classes = Pattern.compile("\\b(class|record|enum|interface) [A-Z]").matcher(code).results().count();
        Checks.holds("twelve classes at most", classes <= 12);
        Checks.end("LanguageTest");
    }
}
