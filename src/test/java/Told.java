import java.lang.reflect.InvocationTargetException;
import java.lang.reflect.Method;
import java.util.HashMap;
import java.util.Map;

/**
 * An object whose calls are told as words, with the answers that are due: "lend 0 1 2 = 10". No object is used for
 * more calls than the document allows.
 */
final class Told {
    static final int MIN = Integer.MIN_VALUE, MAX = Integer.MAX_VALUE;
    private static final int MOST_CALLS = 512, FIRST_PLACE = -1000100;
    private static final Map<String, Method> METHODS = new HashMap<>();
    private static final Map<String, Integer> NAMES = Map.of("NONE", -1000000, "BAD", -1000001, "STATE", -1000002,
        "FULL", -1000003, "NULL", -1000011, "PLACE", -1000012, "KIND", -1000013, "SIZE", -1000014, "STORE", -1000015);

    static {
        for (Method m : BellDebts.class.getMethods()) {
            if (m.getDeclaringClass() == BellDebts.class) {
                METHODS.put(m.getName(), m);
            }
        }
    }

    private final BellDebts x = new BellDebts();
    private final Due due;
    private final String text;
    private int calls;

    Told(Due due) {
        this.due = due;
        this.text = "new";
    }

    /** With the VALLEY of a text. */
    Told(Due due, String text) {
        this.due = due;
        this.text = text;
        if (read(text) < 2) {
            throw new IllegalArgumentException("no valley: " + text);
        }
    }

    /** The answer of a call: "lend 0 1 2". */
    int call(String words) {
        String[] word = words.split(" ");
        Method m = METHODS.get(word[0]);
        if (m == null || m.getParameterCount() != word.length - 1) {
            throw new IllegalArgumentException("no such call: " + words);
        }
        Object[] arguments = new Object[word.length - 1];
        for (int k = 0; k < arguments.length; k++) {
            arguments[k] = number(word[k + 1]);
        }
        calls++;
        if (calls > MOST_CALLS) {
            throw new IllegalStateException("more than " + MOST_CALLS + " calls of " + text);
        }
        try {
            return (Integer) m.invoke(x, arguments);
        } catch (IllegalAccessException | InvocationTargetException e) {
            throw new IllegalStateException(words, e);
        }
    }

    /** Calls with the answers that are due: a number, or the name of a refusal. */
    Told due(String... lines) {
        for (String line : lines) {
            String[] half = line.split(" = ");
            due.is(text + ": " + half[0], number(half[1]), call(half[0]));
        }
        return this;
    }

    /** A call with an answer that is due for each number in place of #. */
    Told each(String line, int... numbers) {
        for (int number : numbers) {
            due(line.replace("#", String.valueOf(number)));
        }
        return this;
    }

    /** A call several times, with the same answer. */
    Told times(int n, String line) {
        for (int k = 0; k < n; k++) {
            due(line);
        }
        return this;
    }

    /** Calls whose answers are not looked at. */
    Told after(String... calls) {
        for (String words : calls) {
            call(words);
        }
        return this;
    }

    Told feeds(String letters) {
        for (char letter : letters.toCharArray()) {
            call("feed " + (int) letter);
        }
        return this;
    }

    /** The bytes of a text, and what valley() answers then. */
    int read(String letters) {
        feeds(letters);
        return call("valley");
    }

    Told reads(String letters, int answer) {
        due.is(text + ": valley() of '" + letters + "'", answer, read(letters));
        return this;
    }

    /** A text that has a FAULT, at a place, of a number. */
    Told faulty(String letters, int place, int number) {
        reads(letters, FIRST_PLACE - place);
        due.is(text + ": fault() of '" + letters + "'", number, call("fault"));
        return this;
    }

    int calls() {
        return calls;
    }

    private static int number(String word) {
        if (word.equals("MIN")) {
            return MIN;
        }
        if (word.equals("MAX")) {
            return MAX;
        }
        return NAMES.containsKey(word) ? NAMES.get(word) : Integer.parseInt(word);
    }
}
