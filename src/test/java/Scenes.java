import java.util.Arrays;
import java.util.HashSet;
import java.util.Set;

/** What several tests begin with. */
final class Scenes {
    static final String OUT = "throws.IndexOutOfBoundsException";
    static final String WRONG = "throws.IllegalArgumentException";
    static final String STATE = "throws.IllegalStateException";
    static final int MIN = Integer.MIN_VALUE;
    static final int MAX = Integer.MAX_VALUE;
    /** The greatest and the least number of 32 bits, reckoned so that nothing wraps around. */
    static final String GREATEST = "(2147 * 999999 + 485794)";
    static final String LEAST = "(-2147 * 999999 - 485795)";
    static final String[] KEYWORDS = ("word is hold for glide to rest band near prune restore shift by when lesson kept distance "
            + "length of heard pruned not and or min max").split(" ");
    private static final String SYMBOLS = "( ) [ ] ; , + - * / < > = <= >=";
    private static final String NO_TOKENS = "! abcdefghijk 1234567";

    private Scenes() {
    }

    static Script told(String text) {
        return Script.fresh().teach(text);
    }

    /** A line that tells a word by its pitches. */
    static String word(String name, int... pitches) {
        StringBuilder line = new StringBuilder("word " + name);
        for (int k = 0; k < pitches.length; k++) {
            line.append(k == 0 ? " is " : ", ").append(pitches[k] == 0 ? "rest" : "hold " + pitches[k]).append(" for 1");
        }
        return line + ";";
    }

    /** Lines that tell n words w0, w1 and so on, each of one beat. */
    static String words(int n) {
        StringBuilder lines = new StringBuilder();
        for (int k = 0; k < n; k++) {
            lines.append(word("w" + k, k + 1));
        }
        return lines.toString();
    }

    /** Whether the test of a rule holds, with a word a of one beat of 1, in the first lesson, with nothing heard. */
    static void holds(String test, boolean want) {
        Script s = told(word("a", 1) + "prune a when " + test + ";");
        Script.compare(test, s.answer("passLessons 1"), want ? "1" : "0");
    }

    /** With just these tokens a beginning of a language goes on; all others have error 1; a is a name, 1 a number. */
    static void goesOn(String beginning, String tokens) {
        Set<String> due = new HashSet<>(Arrays.asList(tokens.split(" ")));
        String all = String.join(" ", KEYWORDS) + " a 1 " + SYMBOLS + " " + NO_TOKENS;
        for (String token : all.split(" ")) {
            String text = beginning + " " + token + " ";
            if (!due.contains(token)) {
                Script.fresh().teach(text, 1, beginning.length() + 1);
            } else if (token.equals(";")) {
                Script.fresh().teach(text);
            } else {
                Script.fresh().teach(text, 1, text.length());
            }
        }
    }

    /**
     * Much has happened: three words, c of them pruned, three rules, a latest error, two beats heard, two lessons, and
     * a language of seven bytes waits on the tape.
     */
    static Script amid() {
        Script s = told("word a is hold 10 for 2, rest for 1; word b is glide 12 to 20 for 4; word c is hold 10 for 3;"
                + "prune b when lesson = 3; shift a by 1 when heard a; restore c when pruned c and lesson > 4; band 1; near 12;");
        s.hear(12, 0).due("passLessons 2", 2).due("turnPruned 2", "true").teach("band", 1, 4);
        return s.feedText("band 3;");
    }

    /** The call throws in the midst of all this, and neither what can be asked nor the tape changes. */
    static void refusedAmid(String call, String exception) {
        Script s = amid().refused(call, exception);
        s.due("trim 8", WRONG).due("trim 7", 7).due("teach", 0).due("errorAt", -1).due("words", 0);
    }

    /** The call answers in the midst of all this, and neither what can be asked nor the tape changes. */
    static void onlyAsksAmid(String call, String want) {
        Script s = amid().due(call, want).changesNothing(call);
        s.due("trim 8", WRONG).due("trim 7", 7).due("teach", 0).due("errorAt", -1).due("words", 0);
    }
}
