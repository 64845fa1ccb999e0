/** Tests of the document's sentences: each answer is told with the sentence by which it is due. */
final class Edges {
    static final int INVALID = -1;
    static final int NOT_POSSIBLE = -2;
    static final int LIMIT = -3;
    static final int NOT_FOUND = -4;
    static final int MIN = Integer.MIN_VALUE;
    static final int MAX = Integer.MAX_VALUE;

    private static final int MOST_STATES = 4;

    private final Doc doc = new Doc();
    private final Due due;
    private String sentence = "no sentence: ";
    private int answers = 1;

    Edges(String name) {
        due = new Due(name);
    }

    /** From here on answers are due by these words, which have to stand in this section of the document. */
    void of(String section, String words) {
        mustHaveAnswers();
        sentence = section + " says \"" + words + "\": ";
        due.same("the words stand there: " + sentence, doc.section(section).contains(words) ? 1 : 0, 1);
        answers = 0;
    }

    private void mustHaveAnswers() {
        due.same("there are answers: " + sentence, answers > 0 ? 1 : 0, 1);
    }

    void same(String call, long got, long want) {
        answers++;
        due.same(sentence + call, got, want);
    }

    void sameDouble(String call, double got, double want) {
        answers++;
        due.same(sentence + call, got, want);
    }

    void sameText(String call, String got, String want) {
        answers++;
        due.same(sentence + call + " is " + got + ", due is " + want, got.equals(want) ? 1 : 0, 1);
    }

    void end() {
        mustHaveAnswers();
        due.end();
    }

    static void append(EchoTurns x, String text) {
        for (int i = 0; i < text.length(); i++) {
            x.append(text.charAt(i));
        }
    }

    static EchoTurns pad(String text) {
        EchoTurns x = new EchoTurns();
        append(x, text);
        return x;
    }

    /** A new object with this scene, which is the first state of its history. */
    static EchoTurns scene(String text) {
        EchoTurns x = pad(text);
        x.load();
        return x;
    }

    static EchoTurns scene(String text, int blind, int loud) {
        EchoTurns x = scene(text);
        x.set(0, blind);
        x.set(1, loud);
        return x;
    }

    /** The scene as it is written. */
    static String text(EchoTurns x) {
        StringBuilder text = new StringBuilder();
        for (int code = x.sign(0); code > 0; code = x.sign(text.length())) {
            text.append((char) code);
        }
        return text.toString();
    }

    /** Targets, spacings and settings in one text, with some thirty calls. */
    static String state(EchoTurns x) {
        StringBuilder text = new StringBuilder();
        for (int target = 0; target < x.count(0); target++) {
            for (int what = 0; what < 4; what++) {
                text.append(x.targetOf(target, what)).append(what < 3 ? " " : ", ");
            }
        }
        for (int what : new int[] {3, 4, 5, 6, 7, 14, 15}) {
            text.append(' ').append(x.count(what));
        }
        return text.toString();
    }

    /** All that can be seen of an object, its history and its pad too; the object is of no use then. */
    static String all(EchoTurns x) {
        StringBuilder text = new StringBuilder(state(x));
        text.append(" pad ").append(x.count(17)).append(' ').append(x.fault());
        for (int i = 0; i < MOST_STATES && x.count(18) > 0; i++) {
            text.append(" undo ").append(x.undo()).append(' ').append(state(x));
        }
        text.append(" snapshot ").append(x.restore()).append(' ').append(state(x));
        text.append(" load ").append(x.load()).append(' ').append(state(x));
        return text.toString();
    }
}
