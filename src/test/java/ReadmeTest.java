import java.io.IOException;
import java.nio.file.Files;
import java.nio.file.Path;
import java.util.Arrays;
import java.util.regex.Matcher;
import java.util.regex.Pattern;

/** README.md names every call of the document's face with what it takes, and its example answers as it says. */
public final class ReadmeTest {
    private static final Due DUE = new Due("ReadmeTest");
    private static final int CALLS = 38;

    public static void main(String[] args) throws IOException {
        String readme = Files.readString(Path.of("README.md"));
        everyCall(Files.readString(Path.of("../shared/DOC.md")), readme);
        example(readme);
        everyTest(readme);
        DUE.close();
    }

    private static void everyCall(String document, String readme) {
        Matcher m = Pattern.compile("(?m)^    public (?:int|long|boolean) (\\w+)\\((.*?)\\)").matcher(document);
        int calls = 0;
        while (m.find()) {
            calls++;
            String row = "| `" + m.group(1) + "(" + m.group(2).replace("int ", "") + ")` | ";
            DUE.is("rows that begin with " + row, readme.split(Pattern.quote("\n" + row), -1).length - 1, 1);
        }
        DUE.is("calls of the face", calls, CALLS);
        long rows = readme.lines().filter(line -> line.startsWith("| `")).count();
        DUE.is("rows of calls", rows, CALLS);
    }

    /** Each line is a call and, behind it, the answer that is due. */
    private static void example(String readme) {
        WovenKeeper x = new WovenKeeper();
        Matcher m = Pattern.compile("(?m)^x\\.(\\w+)\\((.*?)\\); +// (-?\\d+|true|false): ").matcher(readme);
        int lines = 0;
        while (m.find()) {
            lines++;
            Call call = new Call(m.group(1), numbers(m.group(2)));
            DUE.is("the example's " + call, call.on(x), answer(m.group(3)));
        }
        long due = readme.lines().filter(line -> line.startsWith("x.")).count();
        DUE.is("the example has lines", lines > 0, true);
        DUE.is("lines of the example that tell an answer", lines, due);
    }

    private static int[] numbers(String list) {
        return list.isEmpty() ? new int[0] : Arrays.stream(list.split(", ")).mapToInt(Integer::decode).toArray();
    }

    private static long answer(String text) {
        return switch (text) {
            case "true" -> 1;
            case "false" -> 0;
            default -> Long.parseLong(text);
        };
    }

    private static void everyTest(String readme) throws IOException {
        try (var files = Files.list(Path.of("src/test/java"))) {
            files.map(file -> file.getFileName().toString()).filter(name -> name.endsWith("Test.java"))
                    .forEach(name -> DUE.is("README.md names " + name, readme.contains(name), true));
        }
    }
}
