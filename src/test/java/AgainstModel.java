import java.util.Map;
import java.util.TreeMap;

/** Long runs of thrown calls, each answered by the program and by the model; the calls that differ are told. */
public final class AgainstModel {
    private static final int RUNS = 600;
    private static final int CALLS = 512;
    private static final String[] PLAIN = {"errorAt", "words", "keptWords", "rules", "lessons", "rulesCarriedOut",
        "heardBeats", "meantWord", "surety", "forget", "pruneNeedless", "meanLength", "digest", "digest", "digest"};
    private static final String[] OF_WORD = {"lengthOf", "isPruned", "silentBeats", "nearestTo", "isNeedless", "distanceTo",
        "contourTo", "stepsTo", "turnPruned", "lessonsUntilMeant", "lessonsUntilMeant", "bestShift"};
    private static final String[] OF_TWO_WORDS = {"distanceBetween", "contourBetween", "areNear"};
    private static final String[] OF_BEAT = {"pitchAt", "contourAt"};
    private static final String[] OF_LESSONS = {"passLessons", "keptAfter"};

    private final Dice dice;
    private final int run;
    private final Script program = Script.fresh();
    private final Script model = new Script(new Model());
    private final Map<String, Integer> seen;
    private int calls = 0;

    private AgainstModel(int run, Map<String, Integer> seen) {
        this.run = run;
        this.dice = new Dice(run);
        this.seen = seen;
    }

    public static void main(String[] args) {
        Map<String, Integer> seen = new TreeMap<>();
        for (int run = 0; run < RUNS; run++) {
            new AgainstModel(run, seen).play();
        }
        if (args.length > 0) {
            System.out.println(seen);
        }
        Script.finish();
    }

    private void play() {
        Script.promise("run " + run);
        if (dice.once(40)) {
            some(20);
        }
        while (calls < CALLS) {
            boolean told = teach();
            some(told ? dice.between(5, 250) : dice.between(0, 6));
        }
    }

    private void some(int n) {
        for (int k = 0; k < n; k++) {
            call(thrown());
        }
    }

    /** What is due, or nothing, if all calls were made. */
    private String call(String call) {
        if (calls == CALLS) {
            return "";
        }
        calls++;
        String got = program.answer(call);
        String want = model.answer(call);
        Script.compare("call " + calls + ", " + call, got, want);
        String name = call.split(" ")[0];
        seen.merge(name + (want.startsWith("throws") || name.equals("teach") ? " " + want : ""), 1, Integer::sum);
        return want;
    }

    /** Whether there was no error. */
    private boolean teach() {
        String text = new Composer(dice).compose();
        for (int place = 0; place < text.length(); place += 20) {
            StringBuilder feed = new StringBuilder("feed");
            for (int n = 0; n < 5; n++) {
                int number = 0;
                for (int k = place + 4 * n; k < place + 4 * n + 4; k++) {
                    number = number << 8 | (k < text.length() ? text.charAt(k) : 32);
                }
                feed.append(' ').append(number);
            }
            call(feed.toString());
        }
        if (!dice.once(9)) {
            call("trim " + text.length());
        }
        boolean told = call("teach").equals("0");
        call("errorAt");
        call("digest");
        return told;
    }

    private String thrown() {
        switch (dice.below(20)) {
            case 0: case 1: case 2: case 3:
                return dice.oneOf(PLAIN);
            case 4: case 5: case 6: case 7: case 8:
                return dice.oneOf(OF_WORD) + " " + word();
            case 9: case 10:
                return dice.oneOf(OF_TWO_WORDS) + " " + word() + " " + word();
            case 11:
                return dice.oneOf(OF_BEAT) + " " + word() + " " + beat();
            case 12:
                return "heardPitch " + beat();
            case 13: case 14:
                return dice.oneOf(OF_LESSONS) + " " + (dice.once(6) ? odd() : dice.once(6) ? dice.between(19, 22) : dice.between(0, 4));
            case 15: case 16:
                return "hearWord " + word() + " " + (dice.once(8) ? odd() : dice.once(4) ? dice.between(-41, 41) : dice.between(-4, 4));
            case 17: case 18:
                return "hear " + (dice.once(12) ? odd() : dice.once(12) ? dice.between(-1, 41) : dice.between(0, 40));
            default:
                return dice.once(3) ? "trim " + dice.oneOf("-1", "0", "1", "2001") : dice.oneOf(PLAIN);
        }
    }

    private int word() {
        return dice.once(15) ? odd() : dice.once(20) ? dice.between(-1, 9) : dice.between(0, 4);
    }

    private int beat() {
        return dice.once(15) ? odd() : dice.between(-1, 24);
    }

    private int odd() {
        return Integer.parseInt(dice.oneOf("-2147483648", "2147483647", "-1", "-40", "40", "24", "41", "1000000", "8", "21"));
    }
}
