import java.lang.reflect.InvocationTargetException;
import java.lang.reflect.Method;
import java.util.Arrays;

/** Calls an object by the names of its methods and compares what it answers with what is due. */
final class Script {
    /** Behind so many calls the document promises nothing more of an object. */
    private static final int MOST_CALLS = 512;
    private static final int MOST_TOLD = 50;
    private static final String[] ASKED = {"errorAt", "words", "keptWords", "rules", "lessons", "rulesCarriedOut", "heardBeats",
        "meantWord", "surety", "keptAfter 1", "keptAfter 20", "meanLength", "digest"};
    private static final String[] ASKED_OF_WORDS = {"silentBeats", "distanceTo", "contourTo", "stepsTo", "bestShift", "lessonsUntilMeant"};
    private static int wrong = 0;
    private static int compared = 0;
    private static String title = "";
    private final Object object;
    private int calls = 0;

    Script(Object object) {
        this.object = object;
    }

    static Script fresh() {
        return new Script(new GlideWhistles());
    }

    static void promise(String name) {
        title = name;
    }

    /** How many answers were compared up to now. */
    static int compared() {
        return compared;
    }

    static void finish() {
        System.out.println(wrong == 0 ? "all answers are as due" : wrong + " answers are wrong");
        System.exit(wrong == 0 ? 0 : 1);
    }

    static void compare(String what, String got, String want) {
        compared++;
        if (!got.equals(want)) {
            wrong++;
            if (wrong <= MOST_TOLD) {
                System.out.println(title + ": " + what + " answered " + got + ", due is " + want);
            }
        }
    }

    /** "teach" or "pitchAt 0 3"; the answer as a text, "throws.X" for an exception X. */
    String answer(String call) {
        String[] parts = call.trim().split(" +");
        Object[] numbers = new Object[parts.length - 1];
        for (int k = 0; k < numbers.length; k++) {
            numbers[k] = Integer.parseInt(parts[k + 1]);
        }
        return answer(parts[0], numbers);
    }

    private String answer(String name, Object[] numbers) {
        calls++;
        if (calls == MOST_CALLS + 1) {
            compare("a test that calls one object", "more than 512 times", "at most 512 times");
        }
        Class<?>[] types = new Class<?>[numbers.length];
        Arrays.fill(types, int.class);
        try {
            Method method = object.getClass().getDeclaredMethod(name, types);
            return String.valueOf(method.invoke(object, numbers));
        } catch (InvocationTargetException e) {
            return "throws." + e.getCause().getClass().getSimpleName();
        } catch (ReflectiveOperationException e) {
            throw new AssertionError(e);
        }
    }

    Script due(String call, String want) {
        compare(call, answer(call), want);
        return this;
    }

    Script due(String call, long want) {
        return due(call, String.valueOf(want));
    }

    /** The call throws the exception, and all that can be asked answers the same behind it. */
    Script refused(String call, String exception) {
        String before = everything();
        due(call, exception);
        compare("everything behind " + call, everything(), before);
        return this;
    }

    /** The call answers, and all that can be asked answers the same behind it. */
    Script changesNothing(String call) {
        String before = everything();
        answer(call);
        compare("everything behind " + call, everything(), before);
        return this;
    }

    private String everything() {
        StringBuilder all = new StringBuilder();
        for (String call : ASKED) {
            all.append(call).append(" = ").append(answer(call)).append("; ");
        }
        int words = Integer.parseInt(answer("words"));
        for (int word = 0; word < words; word++) {
            for (String call : ASKED_OF_WORDS) {
                all.append(call).append(' ').append(word).append(" = ").append(answer(call + " " + word)).append("; ");
            }
            all.append("areNear 0 ").append(word).append(" = ").append(answer("areNear 0 " + word)).append("; ");
        }
        return all.toString();
    }

    /** The word has just these pitches. */
    Script pitches(int word, int... pitches) {
        due("lengthOf " + word, pitches.length);
        for (int beat = 0; beat < pitches.length; beat++) {
            due("pitchAt " + word + " " + beat, pitches[beat]);
        }
        return this;
    }

    /** Just these beats were heard. */
    Script heard(int... pitches) {
        due("heardBeats", pitches.length);
        for (int beat = 0; beat < pitches.length; beat++) {
            due("heardPitch " + beat, pitches[beat]);
        }
        return this;
    }

    /** Hears these beats, behind those that were heard. */
    Script hear(int... pitches) {
        for (int pitch : pitches) {
            compare("hear " + pitch + " throws", String.valueOf(answer("hear " + pitch).startsWith("throws")), "false");
        }
        return this;
    }

    Script feedText(String text) {
        byte[] bytes = new byte[text.length()];
        for (int k = 0; k < bytes.length; k++) {
            bytes[k] = (byte) text.charAt(k);
        }
        return feedBytes(bytes);
    }

    /** Feeds the bytes, filled up with blanks to twenties, and trims the tape to them; the tape is empty before. */
    Script feedBytes(byte[] bytes) {
        int rounds = (bytes.length + 19) / 20;
        for (int r = 0; r < rounds; r++) {
            StringBuilder call = new StringBuilder("feed");
            for (int n = 0; n < 5; n++) {
                int number = 0;
                for (int k = 0; k < 4; k++) {
                    int place = r * 20 + n * 4 + k;
                    number = number << 8 | (place < bytes.length ? bytes[place] & 255 : 32);
                }
                call.append(' ').append(number);
            }
            due(call.toString(), (r + 1) * 20L);
        }
        return due("trim " + bytes.length, bytes.length);
    }

    /** Teaches a text without an error. */
    Script teach(String text) {
        return teach(text, 0, -1);
    }

    Script teach(String text, int error, int place) {
        feedText(text);
        compare("teach of '" + text + "'", answer("teach"), String.valueOf(error));
        compare("errorAt of '" + text + "'", answer("errorAt"), String.valueOf(place));
        return this;
    }

    /** The error is due at the mark, which is taken out of the text. */
    Script teachMarked(String marked, int error) {
        int place = marked.indexOf('^');
        return teach(marked.substring(0, place) + marked.substring(place + 1), error, place);
    }
}
