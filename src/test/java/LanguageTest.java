import java.io.IOException;
import java.nio.file.Files;
import java.nio.file.Path;
import java.util.regex.Matcher;
import java.util.regex.Pattern;

/** What of LANGUAGE.md can be seen from the words of the source. Run from the project's root. */
public final class LanguageTest {
    private static final Due DUE = new Due("LanguageTest");
    private static final String[] FORBIDDEN = {
        "\\b(throw|throws|try|catch|finally|synchronized|assert|import|package|record|var|yield|native)\\b",
        "\\b(equals|hashCode|toString|getClass|Exact|Thread|System\\.(?!arraycopy))\\b?", "->", "::", "%\\s*0\\b",
        "\\bnew \\w+\\([^)]*\\)\\s*\\{", "\\bnull\\b"};

    public static void main(String[] args) throws IOException {
        String source = Files.readString(Path.of("src/main/java/BellDebts.java"));
        String code = source.replaceAll("(?s)/\\*.*?\\*/", "").replaceAll("//[^\n]*", "");
        for (String word : FORBIDDEN) {
            Matcher m = Pattern.compile(word).matcher(code);
            DUE.is("forbidden: " + word, 0, m.find() ? 1 : 0);
        }
        for (char letter : source.toCharArray()) {
            if (letter > 126) {
                DUE.is("a sign beyond 126", 126, letter);
            }
        }
        methods(code);
        DUE.end();
    }

    /** Methods are at most 60 lines long, have 7 parameters, and make nothing: only constructors and fields do. */
    private static void methods(String code) {
        Matcher m = Pattern.compile("(?m)^( +)(?:public |private |static )*[\\w\\[\\]]+ ([a-z]\\w*)\\(([^)]*)\\) \\{$").matcher(code);
        int seen = 0;
        while (m.find()) {
            String body = code.substring(m.end(), code.indexOf("\n" + m.group(1) + "}\n", m.end()));
            DUE.is("lines of " + m.group(2), 1, body.split("\n").length <= 60 ? 1 : 0);
            DUE.is("parameters of " + m.group(2), 1, m.group(3).split(",").length <= 7 ? 1 : 0);
            boolean makes = body.contains("new ") || body.contains("clone()") || body.contains("\"");
            DUE.is(m.group(2) + " makes nothing", 0, makes ? 1 : 0);
            seen++;
        }
        DUE.is("methods seen", 1, seen > 80 ? 1 : 0);
    }
}
