import java.io.IOException;
import java.lang.reflect.Field;
import java.lang.reflect.Method;
import java.lang.reflect.Modifier;
import java.nio.file.Files;
import java.nio.file.Path;
import java.util.HashSet;
import java.util.Set;
import java.util.regex.Matcher;
import java.util.regex.Pattern;

/** Rules of LANGUAGE.md that the program's source shows at a glance; it is run from the project's root. */
public final class LanguageTest {
    private static final String[] RULED_OUT = {"\\bthrow\\b", "\\btry\\b", "\\bcatch\\b", "\\bsynchronized\\b",
        "\\bassert\\b", "->", "::", "\\bpackage\\b", "\\bnew Thread\\b", "\\bSystem\\.(?!arraycopy)", "Exact\\b",
        "\\bstatic \\{", "\\bRandom\\b", "\\bprotected\\b", "\\bfinally\\b", "\\bString\\b"};
    private static final Pattern METHOD = Pattern.compile(
            "(?m)^( {4}| {8})((?:public |private |static )*(?:int|void|boolean) |(?:public )?[A-Z]\\w*\\()[^;={}]*\\) \\{$");

    public static void main(String[] args) throws IOException {
        String source = Files.readString(Path.of("src/main/java/WaysOut.java"));
        String code = source.replaceAll("(?s)/\\*.*?\\*/", "").replaceAll("//[^\n]*", "");
        for (String no : RULED_OUT) {
            Matcher found = Pattern.compile(no).matcher(code);
            Check.due("the source has " + no, found.find(), false);
        }
        Matcher imports = Pattern.compile("(?m)^import ([^;]*);").matcher(code);
        while (imports.find()) {
            Check.due("import " + imports.group(1), imports.group(1).equals("java.util.Arrays"), true);
        }
        int classes = code.split("\\bclass ").length - 1;
        Check.due("classes: " + classes, classes <= 12, true);
        methods(code);
        Set<String> face = new HashSet<>();
        for (Method method : WaysOut.class.getMethods()) {
            face.add(method.getName());
        }
        members(WaysOut.class, face);
        for (Class<?> inside : WaysOut.class.getDeclaredClasses()) {
            int how = inside.getModifiers();
            Check.due("static, not seen from outside: " + inside, Modifier.isStatic(how) && !Modifier.isPublic(how), true);
            members(inside, face);
        }
        Check.finish("LanguageTest");
    }

    private static void methods(String code) {
        Matcher method = METHOD.matcher(code);
        int count = 0;
        while (method.find()) {
            count++;
            int end = code.indexOf("\n" + method.group(1) + "}\n", method.end());
            int lines = code.substring(method.start(), end).split("\n").length + 1;
            Check.due("lines of " + method.group().trim() + " " + lines, lines <= 60, true);
            int parameters = method.group().split(",").length;
            Check.due("parameters of " + method.group().trim(), parameters <= 7, true);
        }
        Check.due("methods were found: " + count, count > 80, true);
    }

    /** Rules 1, 5 and 11: names of private methods, static fields, how many fields a class has. */
    private static void members(Class<?> of, Set<String> face) {
        for (Method method : of.getDeclaredMethods()) {
            if (Modifier.isPrivate(method.getModifiers())) {
                Check.due("a public name on private " + method, face.contains(method.getName()), false);
            }
        }
        int fields = 0;
        for (Field field : of.getDeclaredFields()) {
            if (Modifier.isStatic(field.getModifiers())) {
                boolean constant = Modifier.isFinal(field.getModifiers()) && field.getType() == int.class;
                Check.due("a constant: " + field, constant, true);
            } else {
                Check.due("private: " + field, Modifier.isPrivate(field.getModifiers()), true);
                fields++;
            }
        }
        Check.due("fields of " + of + ": " + fields, fields <= 20, true);
    }
}
