import java.io.IOException;
import java.io.UncheckedIOException;
import java.nio.file.Files;
import java.nio.file.Path;

/** The document, by its parts: what stands before the promises, then each promise. It is read from the project's root. */
final class Document {
    static final int PROMISES = 17;
    private static final Path FILE = Path.of("../shared/DOC.md");
    private static final String[] PARTS = read();

    private Document() {
    }

    static boolean isHere() {
        return PARTS.length != 0;
    }

    /** Whether words stand before the promises or in this one; where there is no document, none can be missed. */
    static boolean has(int promise, String words) {
        return !isHere() || PARTS[0].contains(words) || PARTS[promise].contains(words);
    }

    private static String[] read() {
        if (!Files.isReadable(FILE)) {
            System.out.println("no " + FILE + " here: the words of sentences are not compared with it");
            return new String[0];
        }
        try {
            String whole = Files.readString(FILE).replaceAll("\\s+", " ").replace("## Not promised", "## Promise");
            return whole.split("## Promise ");
        } catch (IOException e) {
            throw new UncheckedIOException(e);
        }
    }
}
