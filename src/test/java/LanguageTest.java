import java.io.IOException;
import java.nio.file.Files;
import java.nio.file.Path;
import java.util.LinkedHashMap;
import java.util.Map;
import java.util.regex.Matcher;
import java.util.regex.Pattern;

/** What of LANGUAGE.md can be seen from the words of the source. Run from the project's root. */
public final class LanguageTest {
    private static final Due DUE = new Due("LanguageTest");
    private static final int DEEPEST = 8;
    private static final String[] FORBIDDEN = {
        "\\b(throw|throws|try|catch|finally|synchronized|assert|import|package|record|var|yield|native)\\b",
        "\\b(equals|hashCode|toString|getClass|Exact|Thread|System\\.(?!arraycopy))\\b?", "->", "::", "%\\s*0\\b",
        "\\bnew \\w+\\([^)]*\\)\\s*\\{", "\\bnull\\b"};

    public static void main(String[] args) throws IOException {
        String source = Files.readString(Path.of("src/main/java/BellDebts.java"));
        String code = source.replaceAll("(?s)/\\*.*?\\*/", "").replaceAll("//[^\n]*", "");
        for (String word : FORBIDDEN) {
            Matcher m = Pattern.compile(word).matcher(code);
            DUE.is("forbidden: " + word, 0, m.find() ? 1 : 0);
        }
        for (char letter : source.toCharArray()) {
            if (letter > 126) {
                DUE.is("a sign beyond 126", 126, letter);
            }
        }
        methods(code);
        classes(code);
        DUE.end();
    }

    /** Methods are at most 60 lines long, have 7 parameters, and make nothing: only constructors and fields do. */
    private static void methods(String code) {
        Matcher m = Pattern.compile("(?m)^( +)(?:public |private |static )*[\\w\\[\\]]+ ([a-z]\\w*)\\(([^)]*)\\) \\{$").matcher(code);
        Map<String, String> bodies = new LinkedHashMap<>();
        while (m.find()) {
            String body = code.substring(m.end(), code.indexOf("\n" + m.group(1) + "}\n", m.end()));
            DUE.is("lines of " + m.group(2), 1, body.split("\n").length <= 60 ? 1 : 0);
            DUE.is("parameters of " + m.group(2), 1, m.group(3).split(",").length <= 7 ? 1 : 0);
            boolean makes = body.contains("new ") || body.contains("clone()") || body.contains("\"");
            DUE.is(m.group(2) + " makes nothing", 0, makes ? 1 : 0);
            DUE.is("one method alone is named " + m.group(2), 1, bodies.put(m.group(2), body) == null ? 1 : 0);
        }
        DUE.is("methods seen", 1, bodies.size() > 80 ? 1 : 0);
        for (String name : bodies.keySet()) {
            int depth = depth(name, bodies, 1);
            DUE.is("calls from " + name + " are " + depth + " deep", 1, depth <= DEEPEST ? 1 : 0);
        }
    }

    /** How many calls stand open at once, at most; one that comes back to itself goes deeper than is allowed. */
    private static int depth(String name, Map<String, String> bodies, int open) {
        int deepest = open;
        Matcher m = Pattern.compile("\\b(\\w+)\\(").matcher(bodies.get(name));
        while (m.find() && deepest <= DEEPEST) {
            if (bodies.containsKey(m.group(1))) {
                deepest = Math.max(deepest, depth(m.group(1), bodies, open + 1));
            }
        }
        return deepest;
    }

    /** At most twelve classes, of twenty fields each beside the constants; no static field but constants. */
    private static void classes(String code) {
        String[] parts = code.split("\\bclass ");
        DUE.is(parts.length - 1 + " classes", 1, parts.length > 5 && parts.length - 1 <= 12 ? 1 : 0);
        for (int k = 1; k < parts.length; k++) {
            String name = parts[k].substring(0, parts[k].indexOf(' '));
            Matcher field = Pattern.compile("(?m)^ {4,8}(?!return )(private |final )*[\\w\\[\\]]+ \\w+( = new [^;]+)?;$").matcher(parts[k]);
            int fields = 0;
            while (field.find()) {
                fields++;
            }
            DUE.is(fields + " fields of " + name, 1, fields > 0 && fields <= 20 ? 1 : 0);
        }
        Matcher loose = Pattern.compile("\\bstatic (?!final )[^(]*?[;=]").matcher(code);
        DUE.is("static fields that are not final", 0, loose.find() ? 1 : 0);
    }
}
