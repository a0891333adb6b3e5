import java.util.ArrayList;
import java.util.List;

/** Two objects behind the same calls: one is asked once more, then both must answer all else alike. */
final class Twins {
    /** What is done ahead: the object is without a VALLEY, with much in it, or full and at its last DAY. */
    enum Ahead { NEW, RICH, LATE }

    private Twins() {
    }

    /** A call with its answer (a refusal, or what is only foretold) that changes nothing, but status() if told. */
    static void unchanged(Sentences s, Ahead ahead, String line, boolean tellsStatus) {
        Told asked = made(s, ahead);
        Told other = made(s, ahead);
        int status = other.call("status");
        asked.due(line);
        int answer = asked.call("status");
        if (!tellsStatus) {
            s.is("status() behind " + line, status, answer);
        }
        List<Integer> want = everything(other);
        List<Integer> got = everything(asked);
        s.is("what is to be asked behind " + line, want.size(), got.size());
        for (int k = 0; k < want.size() && k < got.size(); k++) {
            s.is("answer " + k + " of all, behind " + line, want.get(k), got.get(k));
        }
    }

    static Told made(Sentences s, Ahead ahead) {
        Told x = s.fresh();
        switch (ahead) {
            case NEW:
                return x.after("row 0 0 2", "row 1 0 0", "drop 1", "feed 118");
            case RICH:
                x.read("v16;");
                x.read("v5;p1,3;f4,1;w2,2;o0,1,9;o2,0,7;");
                x.after("row 0 2 3", "row 1 0 2", "row 7 1 40", "image 0", "days 2", "mend 1 6", "lend 0 1 2",
                    "pay 0 1 3", "lend 1 2 1", "forgive 2 0", "ask 1 0", "days 1");
                x.after("set 0 0 " + x.call("ahead 0 1 1"), "set 0 1 " + x.call("ahead 0 1 2"), "set 0 2 77");
                return x.feeds("v1;").after("as 0 2");
            default:
                x.read("v5;p1,3;f4,1;o0,1,9;");
                x.after("row 0 2 3");
                for (int k = 0; k < 41; k++) {
                    x.call("days 24");
                }
                return x.after("days 15").feeds("v".repeat(160));
        }
    }

    /** Asks for all that an object holds; what cannot be asked for otherwise is undone, restored, dropped, read. */
    private static List<Integer> everything(Told x) {
        List<Integer> answers = new ArrayList<>();
        now(x, answers);
        for (int i = 0; i < 7; i++) {
            answers.add(x.call("trace " + i));
        }
        for (int n = 1; n <= 3; n++) {
            answers.add(x.call("fits 0 1 0 0 " + n + " 3"));
        }
        answers.add(x.call("fits 0 1 1 0 2 0"));
        answers.add(x.call("fits 0 1 7 28 12 0"));
        for (int row = 0; row < 8; row++) {
            answers.add(x.call("set " + row + " 0 70000"));
            answers.add(x.call("drop " + row));
        }
        undone(x, answers);
        for (int k = 0; k < 2; k++) {
            answers.add(x.call("restore " + k));
            now(x, answers);
        }
        answers.add(x.call("valley"));
        answers.add(x.call("fault"));
        return answers;
    }

    private static void now(Told x, List<Integer> answers) {
        for (int what = 0; what < 8; what++) {
            answers.add(x.call("count " + what));
        }
        answers.add(x.call("fault"));
        int bells = x.call("count 1");
        for (int b = 0; b < bells; b++) {
            for (int what = 0; what < 6; what++) {
                answers.add(x.call("bell " + b + " " + what));
            }
            answers.add(x.call("kind " + b));
            for (int other = 0; other < bells; other++) {
                answers.add(x.call("owes " + b + " " + other));
            }
        }
    }

    private static void undone(Told x, List<Integer> answers) {
        for (int k = 0; k <= 24; k++) {
            answers.add(x.call("undo"));
            answers.add(x.call("count 2"));
            answers.add(x.call("count 4"));
            answers.add(x.call("bell 1 0"));
        }
    }
}
