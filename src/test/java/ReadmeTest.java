import java.io.IOException;
import java.lang.reflect.Method;
import java.lang.reflect.Modifier;
import java.nio.file.DirectoryStream;
import java.nio.file.Files;
import java.nio.file.Path;
import java.util.regex.Matcher;
import java.util.regex.Pattern;

/** README.md: the answers that its examples tell are given, and it names every call and every test. */
public final class ReadmeTest {
    private static final Pattern EXAMPLE = Pattern.compile("(?s)```java\n(.*?)```");
    private static final Pattern CALL = Pattern.compile("x\\.(\\w+)\\(([^)]*)\\); +// (-?\\d+|true|false): (.*)");

    public static void main(String[] args) throws ReflectiveOperationException, IOException {
        String readme = Files.readString(Path.of("README.md"));
        Matcher example = EXAMPLE.matcher(readme);
        int examples = 0;
        while (example.find()) {
            examples++;
            run(example.group(1).split("\n"));
        }
        Check.due("examples", examples, 2);
        for (Method call : WaysOut.class.getDeclaredMethods()) {
            if (Modifier.isPublic(call.getModifiers())) {
                Check.due("it tells of " + call.getName(), readme.contains("| `" + call.getName() + "("), true);
            }
        }
        try (DirectoryStream<Path> files = Files.newDirectoryStream(Path.of("src/test/java"), "*Test.java")) {
            for (Path file : files) {
                String name = file.getFileName().toString().replace(".java", "");
                Check.due("it tells of " + name, readme.contains("| " + name + " |"), true);
            }
        }
        Check.due("it tells how the tests are run", readme.contains("    .ci/run\n"), true);
        Check.finish("ReadmeTest");
    }

    private static void run(String[] lines) throws ReflectiveOperationException {
        Check.due("the first line: " + lines[0], lines[0].equals("WaysOut x = new WaysOut();"), true);
        WaysOut x = new WaysOut();
        for (int i = 1; i < lines.length; i++) {
            Matcher call = CALL.matcher(lines[i]);
            boolean fits = call.matches();
            Check.due("a call and its answer: " + lines[i], fits, true);
            if (fits) {
                int[] arguments = numbers(call.group(2));
                String got = String.valueOf(call(x, call.group(1), arguments));
                Check.due(lines[i] + " - whether it answers so, not " + got, got.equals(call.group(3)), true);
                if (call.group(1).equals("feed")) {
                    Check.due(lines[i] + " - whether these are the bytes", bytes(arguments).equals(call.group(4)), true);
                }
            }
        }
    }

    private static int[] numbers(String listed) {
        String[] parts = listed.split(", ");
        int[] out = new int[parts.length];
        for (int i = 0; i < parts.length; i++) {
            out[i] = Integer.decode(parts[i]);
        }
        return out;
    }

    private static Object call(WaysOut x, String name, int[] arguments) throws ReflectiveOperationException {
        Class<?>[] types = new Class<?>[arguments.length];
        Object[] values = new Object[arguments.length];
        for (int i = 0; i < arguments.length; i++) {
            types[i] = int.class;
            values[i] = arguments[i];
        }
        return WaysOut.class.getMethod(name, types).invoke(x, values);
    }

    /** What is fed, without the zeros behind it. */
    private static String bytes(int[] words) {
        StringBuilder out = new StringBuilder();
        for (int word : words) {
            for (int shift = 24; shift >= 0; shift -= 8) {
                out.append((char) (word >>> shift & 255));
            }
        }
        return out.toString().replaceAll("\0+$", "");
    }
}
