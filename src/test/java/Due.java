/** What the tests have in common: answers that are due, and texts that are fed. */
final class Due {
    private final String test;
    private String sentence = "";
    private int checked;
    private int wrong;

    Due(String test) {
        this.test = test;
    }

    /** The sentence of the document by which the answers from now on are due. */
    void by(String words) {
        sentence = words;
    }

    int checked() {
        return checked;
    }

    void is(String call, long want, long got) {
        checked++;
        if (got != want) {
            wrong++;
            System.out.println(test + ": " + call + " answered " + got + ", due is " + want);
            if (!sentence.isEmpty()) {
                System.out.println("    by " + sentence);
            }
        }
    }

    /** Ends the test: exit code 1 if an answer was not the one that is due. */
    void end() {
        System.out.println(test + ": " + checked + " answers, " + wrong + " not as due");
        if (wrong != 0 || checked == 0) {
            System.exit(1);
        }
    }

    static void feed(BellDebts x, String text) {
        for (char letter : text.toCharArray()) {
            x.feed(letter);
        }
    }

    static int read(BellDebts x, String text) {
        feed(x, text);
        return x.valley();
    }

    /** A new object with the VALLEY of a text. */
    static BellDebts valley(String text) {
        BellDebts x = new BellDebts();
        if (read(x, text) < 2) {
            throw new IllegalArgumentException("no valley: " + text);
        }
        return x;
    }
}
