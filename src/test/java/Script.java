import java.lang.reflect.InvocationTargetException;
import java.lang.reflect.Method;

/** Calls an object by the names of its methods and compares what it answers with what is due. */
final class Script {
    private static int wrong = 0;
    private static String title = "";
    private final Object object;

    Script(Object object) {
        this.object = object;
    }

    static Script fresh() {
        return new Script(new GlideWhistles());
    }

    static void promise(String name) {
        title = name;
    }

    static void finish() {
        System.out.println(wrong == 0 ? "all answers are as due" : wrong + " answers are wrong");
        System.exit(wrong == 0 ? 0 : 1);
    }

    static void compare(String what, String got, String want) {
        if (!got.equals(want)) {
            wrong++;
            if (wrong <= 50) {
                System.out.println(title + ": " + what + " answered " + got + ", due is " + want);
            }
        }
    }

    /** "teach" or "pitchAt 0 3"; the answer as a text, "throws.X" for an exception X. */
    String answer(String call) {
        String[] parts = call.trim().split(" +");
        Object[] numbers = new Object[parts.length - 1];
        for (int k = 0; k < numbers.length; k++) {
            numbers[k] = Integer.parseInt(parts[k + 1]);
        }
        return answer(parts[0], numbers);
    }

    private String answer(String name, Object[] numbers) {
        Class<?>[] types = new Class<?>[numbers.length];
        java.util.Arrays.fill(types, int.class);
        try {
            Method method = object.getClass().getDeclaredMethod(name, types);
            return String.valueOf(method.invoke(object, numbers));
        } catch (InvocationTargetException e) {
            return "throws." + e.getCause().getClass().getSimpleName();
        } catch (ReflectiveOperationException e) {
            throw new AssertionError(e);
        }
    }

    Script due(String call, String want) {
        compare(call, answer(call), want);
        return this;
    }

    Script due(String call, long want) {
        return due(call, String.valueOf(want));
    }

    Script feedText(String text) {
        byte[] bytes = new byte[text.length()];
        for (int k = 0; k < bytes.length; k++) {
            bytes[k] = (byte) text.charAt(k);
        }
        return feedBytes(bytes);
    }

    /** Feeds the bytes, filled up with blanks to twenties, and trims the tape to them; the tape is empty before. */
    Script feedBytes(byte[] bytes) {
        int rounds = (bytes.length + 19) / 20;
        for (int r = 0; r < rounds; r++) {
            StringBuilder call = new StringBuilder("feed");
            for (int n = 0; n < 5; n++) {
                int number = 0;
                for (int k = 0; k < 4; k++) {
                    int place = r * 20 + n * 4 + k;
                    number = number << 8 | (place < bytes.length ? bytes[place] & 255 : 32);
                }
                call.append(' ').append(number);
            }
            due(call.toString(), (r + 1) * 20L);
        }
        return due("trim " + bytes.length, bytes.length);
    }

    /** Teaches a text without an error. */
    Script teach(String text) {
        return teach(text, 0, -1);
    }

    Script teach(String text, int error, int place) {
        feedText(text);
        compare("teach of '" + text + "'", answer("teach"), String.valueOf(error));
        compare("errorAt of '" + text + "'", answer("errorAt"), String.valueOf(place));
        return this;
    }

    /** The error is due at the mark, which is taken out of the text. */
    Script teachMarked(String marked, int error) {
        int place = marked.indexOf('^');
        return teach(marked.substring(0, place) + marked.substring(place + 1), error, place);
    }
}
