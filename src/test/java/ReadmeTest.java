import java.nio.file.Files;
import java.nio.file.Path;
import java.util.regex.Matcher;
import java.util.regex.Pattern;

/** The example of README.md: each line of it is made as a call here, and must answer what the line says behind it. */
public final class ReadmeTest {
    private static int lines = 0;

    /** Makes the call that a line tells. */
    private static long answer(OrnamentsOut line, String method, int[] a) throws Exception {
        Class<?>[] types = new Class<?>[a.length];
        Object[] values = new Object[a.length];
        for (int i = 0; i < a.length; i++) {
            types[i] = int.class;
            values[i] = a[i];
        }
        return ((Number) OrnamentsOut.class.getMethod(method, types).invoke(line, values)).longValue();
    }

    private static int[] numbers(String told) {
        if (told.isEmpty()) {
            return new int[0];
        }
        String[] parts = told.split(", ");
        int[] all = new int[parts.length];
        for (int i = 0; i < parts.length; i++) {
            all[i] = Long.decode(parts[i]).intValue();
        }
        return all;
    }

    public static void main(String[] args) throws Exception {
        String readme = Files.readString(Path.of("README.md"));
        Checks.holds("it begins with a new object", readme.contains("OrnamentsOut line = new OrnamentsOut();"));
        OrnamentsOut line = new OrnamentsOut();
        Matcher calls = Pattern.compile("(?m)^line\\.(\\w+)\\(([^)]*)\\); *// (-?\\d+):").matcher(readme);
        while (calls.find()) {
            lines++;
            long got = answer(line, calls.group(1), numbers(calls.group(2)));
            Checks.due(calls.group(), got, Long.parseLong(calls.group(3)));
        }
        long all = readme.lines().filter(one -> one.startsWith("line.")).count();
        Checks.due("each line of the example tells its answer", lines, all);
        Checks.holds("there are some", lines >= 7);
        Matcher told = Pattern.compile("`([a-z][^`\\n]*;)`").matcher(readme);
        int texts = 0;
        while (told.find()) {
            texts++;
            boolean tie = told.group(1).startsWith("tie");
            Checks.holds(told.group() + " is a LINE", Checks.text(new OrnamentsOut(), (tie ? "note c4 1/4;" : "") + told.group(1)) >= 0);
        }
        Checks.due("LINES that README.md shows", texts, 6);
        Files.list(Path.of("src/test/java")).map(file -> file.getFileName().toString()).filter(name -> name.endsWith("Test.java"))
            .forEach(name -> Checks.holds("README.md names " + name, readme.contains("`" + name.replace(".java", "") + "`")));
        Checks.end("ReadmeTest");
    }
}
