import java.io.IOException;
import java.nio.file.DirectoryStream;
import java.nio.file.Files;
import java.nio.file.Path;
import java.util.regex.Matcher;
import java.util.regex.Pattern;

/** Promises 1 to 17: each has tests of its own among the Edges tests, and each of those says its sentence. */
public final class DocumentTest {
    private static final Path TESTS = Path.of("src/test/java");
    private static final Pattern TEST = Pattern.compile("(?m)^    private static void (\\w+)\\(\\) \\{\n(.*)$");
    private static final Pattern SENTENCE = Pattern.compile(" *Check\\.sentence\\((\\d+), (?:\"[^\"]*\"|REFUSED)\\);");

    public static void main(String[] args) throws IOException {
        int[] tests = new int[Document.PROMISES + 1];
        try (DirectoryStream<Path> files = Files.newDirectoryStream(TESTS, "Edges*Test.java")) {
            for (Path file : files) {
                count(Files.readString(file), file.getFileName() + "'s ", tests);
            }
        }
        for (int promise = 1; promise <= Document.PROMISES; promise++) {
            Check.due("promise " + promise + ": tests of its own", tests[promise] > 0, true);
        }
        Check.due("words that stand nowhere in it", Document.has(1, "no such words"), !Document.isHere());
        Check.finish("DocumentTest");
    }

    private static void count(String source, String name, int[] tests) {
        Matcher test = TEST.matcher(source);
        while (test.find()) {
            Matcher sentence = SENTENCE.matcher(test.group(2));
            boolean says = sentence.matches();
            Check.due(name + test.group(1) + " begins with its sentence", says, true);
            Check.due(name + test.group(1) + " is called", source.contains("        " + test.group(1) + "();\n"), true);
            if (says) {
                tests[Integer.parseInt(sentence.group(1))]++;
            }
        }
    }
}
