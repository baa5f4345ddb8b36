import java.lang.reflect.Field;
import java.lang.reflect.Method;
import java.lang.reflect.Modifier;
import java.util.Arrays;
import java.util.Set;
import java.util.TreeSet;

/** The face is that of the document, and nothing else of the class can be seen from outside. */
public final class Face {
    private static final String[] DUE = {
        "int feed(int,int,int,int,int) IllegalStateException",
        "int trim(int) IllegalArgumentException",
        "int teach()",
        "int errorAt()",
        "int words()",
        "int keptWords()",
        "int rules()",
        "int lessons()",
        "int rulesCarriedOut()",
        "int heardBeats()",
        "int lengthOf(int) IndexOutOfBoundsException",
        "int pitchAt(int,int) IndexOutOfBoundsException",
        "int contourAt(int,int) IndexOutOfBoundsException",
        "boolean isPruned(int) IndexOutOfBoundsException",
        "int silentBeats(int) IndexOutOfBoundsException",
        "int distanceBetween(int,int) IndexOutOfBoundsException",
        "int contourBetween(int,int) IndexOutOfBoundsException",
        "boolean areNear(int,int) IndexOutOfBoundsException",
        "int nearestTo(int) IndexOutOfBoundsException IllegalStateException",
        "boolean isNeedless(int) IndexOutOfBoundsException",
        "int heardPitch(int) IndexOutOfBoundsException",
        "int distanceTo(int) IndexOutOfBoundsException IllegalStateException",
        "int contourTo(int) IndexOutOfBoundsException IllegalStateException",
        "int stepsTo(int) IndexOutOfBoundsException IllegalStateException",
        "int meantWord() IllegalStateException",
        "int surety() IllegalStateException",
        "int hear(int) IllegalArgumentException IllegalStateException",
        "int hearWord(int,int) IndexOutOfBoundsException IllegalArgumentException",
        "int forget()",
        "boolean turnPruned(int) IndexOutOfBoundsException",
        "int pruneNeedless()",
        "int passLessons(int) IllegalArgumentException",
        "int keptAfter(int) IllegalArgumentException",
        "int lessonsUntilMeant(int) IndexOutOfBoundsException",
        "int bestShift(int) IndexOutOfBoundsException IllegalStateException",
        "double meanLength()",
        "long digest()",
    };

    public static void main(String[] args) {
        Script.promise("the face");
        Class<?> c = GlideWhistles.class;
        Script.compare("modifiers", Modifier.toString(c.getModifiers()), "public final");
        Script.compare("constructors", Arrays.toString(c.getDeclaredConstructors()), "[public GlideWhistles()]");
        publicMethods(c);
        privateParts(c);
        Script.finish();
    }

    private static void publicMethods(Class<?> c) {
        Set<String> got = new TreeSet<>();
        for (Method method : c.getDeclaredMethods()) {
            if (Modifier.isPublic(method.getModifiers())) {
                StringBuilder text = new StringBuilder(method.getReturnType() + " " + method.getName() + "(");
                for (Class<?> type : method.getParameterTypes()) {
                    text.append(text.charAt(text.length() - 1) == '(' ? "" : ",").append(type);
                }
                text.append(")");
                for (Class<?> type : method.getExceptionTypes()) {
                    text.append(" ").append(type.getSimpleName());
                }
                got.add(text.toString());
                Script.compare(method.getName() + " is static", "" + Modifier.isStatic(method.getModifiers()), "false");
            }
        }
        Script.compare("methods", got.toString(), new TreeSet<>(Arrays.asList(DUE)).toString());
    }

    private static void privateParts(Class<?> c) {
        Set<String> publicNames = new TreeSet<>();
        for (String due : DUE) {
            publicNames.add(due.substring(due.indexOf(' ') + 1, due.indexOf('(')));
        }
        for (Method method : c.getDeclaredMethods()) {
            boolean own = Modifier.isPrivate(method.getModifiers());
            Script.compare(method.getName() + " is private or of the face", "" + (own || Modifier.isPublic(method.getModifiers())), "true");
            Script.compare(method.getName() + " is private with a name of the face", "" + (own && publicNames.contains(method.getName())), "false");
        }
        for (Field field : c.getDeclaredFields()) {
            Script.compare(field.getName() + " is private", "" + Modifier.isPrivate(field.getModifiers()), "true");
            if (Modifier.isStatic(field.getModifiers())) {
                Script.compare(field.getName() + " is final", "" + Modifier.isFinal(field.getModifiers()), "true");
            }
        }
        for (Class<?> inner : c.getDeclaredClasses()) {
            boolean fits = Modifier.isPrivate(inner.getModifiers()) && Modifier.isStatic(inner.getModifiers());
            Script.compare(inner.getSimpleName() + " is private and static", "" + fits, "true");
            for (Method method : inner.getDeclaredMethods()) {
                Script.compare(inner.getSimpleName() + "." + method.getName() + " has a name of the face", "" + publicNames.contains(method.getName()), "false");
            }
        }
    }
}
