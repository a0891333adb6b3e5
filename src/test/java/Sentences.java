import java.io.IOException;
import java.nio.file.Files;
import java.nio.file.Path;
import java.util.LinkedHashMap;
import java.util.Map;

/**
 * The sentences of ../shared/DOC.md, section by section. A test says which sentence the answers that follow are due
 * by; at the end every sentence must have been said, and each that is not plain must have had an answer.
 */
final class Sentences {
    private final Due due;
    private final boolean there;
    private final Map<String, String> texts = new LinkedHashMap<>();
    private final Map<String, boolean[]> said = new LinkedHashMap<>();
    private String section = "";
    private String sentence = "";
    private int checkedAhead;

    Sentences(Due due, Path doc) throws IOException {
        this.due = due;
        there = Files.isReadable(doc);
        if (!there) {
            System.out.println("no " + doc + ": the answers alone are tested, not that each sentence has some");
            return;
        }
        String whole = Files.readString(doc);
        take("What it is", between(whole, "## What it is\n", "## The public face\n"));
        String terms = between(whole, "## Terms\n", "## Promise 1:");
        String[] parts = terms.split("======== [1-4]");
        for (int k = 0; k < parts.length; k++) {
            take("Terms " + k, parts[k]);
        }
        String[] promises = between(whole, "## Promise 1:", "## Not promised\n").split("## Promise \\d+:");
        for (int k = 0; k < promises.length; k++) {
            take("Promise " + (k + 1), promises[k].replaceFirst("^[^`]*`[^`]*`:", ""));
        }
    }

    private static String between(String whole, String from, String to) {
        int start = whole.indexOf(from);
        int end = whole.indexOf(to);
        if (start < 0 || end < start) {
            throw new IllegalArgumentException("DOC.md: no text from " + from + " to " + to);
        }
        return whole.substring(start + from.length(), end);
    }

    private void take(String name, String text) {
        String even = text.replace("```text", " ").replace("```", " ").replaceAll("\\s+", " ").trim();
        texts.put(name, even);
        said.put(name, new boolean[even.length()]);
    }

    /** The section that the sentences from now on stand in. */
    void section(String name) {
        endSentence();
        section = name;
        due.is("DOC.md has a section " + name, 1, !there || texts.containsKey(name) ? 1 : 0);
    }

    /** The answers from now on are due by this sentence. */
    void says(String words) {
        endSentence();
        mark(words, words);
        sentence = section + ": " + words;
        checkedAhead = due.checked();
        due.by(sentence);
    }

    /** A sentence that names nothing to be tested by itself. */
    void plain(String words) {
        endSentence();
        mark(words, words);
    }

    /** The same for all from some words to others. */
    void plain(String from, String to) {
        endSentence();
        mark(from, to);
    }

    Told fresh() {
        return new Told(due);
    }

    Told valley(String text) {
        return new Told(due, text);
    }

    void is(String call, long want, long got) {
        due.is(call, want, got);
    }

    /** What is said twice in a section is marked where it has not been said yet. */
    private void mark(String from, String to) {
        if (!there) {
            return;
        }
        String text = texts.getOrDefault(section, "");
        boolean[] here = said.getOrDefault(section, new boolean[0]);
        int start = text.indexOf(from);
        while (start >= 0 && here[start]) {
            start = text.indexOf(from, start + 1);
        }
        int end = start < 0 ? -1 : text.indexOf(to, start);
        due.is("'" + from + "' stands in " + section + " of DOC.md", 1, end >= 0 ? 1 : 0);
        for (int k = start; end >= 0 && k < end + to.length(); k++) {
            here[k] = true;
        }
    }

    private void endSentence() {
        if (!sentence.isEmpty()) {
            due.is("answers by '" + sentence + "'", 1, due.checked() > checkedAhead ? 1 : 0);
        }
        sentence = "";
        due.by("");
    }

    /** Every letter and figure of the document must have been said. */
    void end() {
        endSentence();
        for (String name : texts.keySet()) {
            String text = texts.get(name);
            boolean[] here = said.get(name);
            StringBuilder left = new StringBuilder();
            for (int k = 0; k < text.length(); k++) {
                left.append(here[k] || !Character.isLetterOrDigit(text.charAt(k)) ? ' ' : text.charAt(k));
            }
            String words = left.toString().replaceAll("\\s+", " ").trim();
            due.is("letters of " + name + " without a test: '" + words + "'", 0, words.length());
        }
    }
}
