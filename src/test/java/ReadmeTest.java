import java.io.IOException;
import java.lang.reflect.Field;
import java.lang.reflect.Method;
import java.lang.reflect.Modifier;
import java.nio.file.DirectoryStream;
import java.nio.file.Files;
import java.nio.file.Path;
import java.util.regex.Matcher;
import java.util.regex.Pattern;

/** README.md: its example answers as it says, and its tables have each call, constant and test. Run from the project's root. */
public final class ReadmeTest {
    private static final Pattern EXAMPLE = Pattern.compile("(?s)```java\n(.*?)```");
    private static final Pattern FED = Pattern.compile("for \\(char letter : \"([^\"]*)\"\\.toCharArray\\(\\)\\) \\{");
    private static final Pattern CALL = Pattern.compile("x\\.(\\w+)\\(([^)]*)\\); +// (-?\\d+|[A-Z]+)\\b.*");
    private static final Due DUE = new Due("ReadmeTest");

    public static void main(String[] args) throws IOException {
        String page = Files.readString(Path.of("README.md"));
        example(page);
        calls(page);
        constants(page);
        tests(page);
        DUE.end();
    }

    /** Each line of the example either makes or feeds the object, or tells a call with its answer. */
    private static void example(String page) {
        Matcher blocks = EXAMPLE.matcher(page);
        int told = 0;
        while (blocks.find()) {
            Told x = new Told(DUE);
            for (String line : blocks.group(1).split("\n")) {
                Matcher fed = FED.matcher(line);
                Matcher call = CALL.matcher(line);
                if (fed.matches()) {
                    x.feeds(fed.group(1));
                } else if (call.matches()) {
                    x.due(words(call.group(1), call.group(2)) + " = " + call.group(3));
                    told++;
                } else {
                    DUE.is("understood: " + line, 1, line.matches("BellDebts x = new BellDebts\\(\\);| +x\\.feed\\(letter\\);|}") ? 1 : 0);
                }
            }
        }
        DUE.is("calls in the example", 1, told > 10 ? 1 : 0);
    }

    private static String words(String name, String arguments) {
        return (name + " " + arguments.replace(",", " ")).trim().replaceAll(" +", " ");
    }

    private static void calls(String page) {
        for (Method m : BellDebts.class.getDeclaredMethods()) {
            if (Modifier.isPublic(m.getModifiers())) {
                Matcher row = Pattern.compile("(?m)^\\| `" + m.getName() + "\\(([^)]*)\\)` \\| .+ \\|$").matcher(page);
                boolean there = row.find();
                DUE.is("the table of calls has " + m.getName(), 1, there ? 1 : 0);
                int parameters = there && !row.group(1).isEmpty() ? row.group(1).split(", ").length : 0;
                DUE.is("parameters of " + m.getName(), m.getParameterCount(), parameters);
            }
        }
    }

    private static void constants(String page) {
        for (Field f : BellDebts.class.getDeclaredFields()) {
            if (Modifier.isPublic(f.getModifiers())) {
                DUE.is("the table of refusals has " + f.getName(), 1, page.contains("| `" + f.getName() + "` (" + value(f) + ") | ") ? 1 : 0);
            }
        }
    }

    private static int value(Field f) {
        try {
            return f.getInt(null);
        } catch (IllegalAccessException e) {
            throw new IllegalStateException(e);
        }
    }

    private static void tests(String page) throws IOException {
        try (DirectoryStream<Path> files = Files.newDirectoryStream(Path.of("src/test/java"), "*Test.java")) {
            for (Path file : files) {
                String name = file.getFileName().toString().replace(".java", "");
                DUE.is("the table of tests has " + name, 1, page.contains("\n| " + name + " | ") ? 1 : 0);
            }
        }
    }
}
