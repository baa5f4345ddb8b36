import java.lang.reflect.Method;
import java.lang.reflect.Modifier;
import java.util.Arrays;
import java.util.Comparator;
import java.util.HashSet;
import java.util.Set;

/**
 * Runs the tests of single sentences of the document: the static methods that are named after a promise (promise17_..)
 * or a paragraph of its terms (terms_.. ahead of section 1, terms1_.., terms2_..).
 */
public final class Sentences {
    private static final int PROMISES = 38;
    private static final Class<?>[] ALL = {TermsOfNumbers.class, TermsOfTokens.class, TermsOfGrammar.class, TermsOfErrors.class,
        TermsOfRows.class, TermsOfLessons.class, EdgesOfLanguage.class, EdgesOfWords.class, EdgesOfHearing.class, EdgesOfLessons.class};

    private Sentences() {
    }

    public static void main(String[] args) throws ReflectiveOperationException {
        Set<String> named = new HashSet<>();
        int ran = 0;
        for (Class<?> tests : ALL) {
            Method[] methods = tests.getDeclaredMethods();
            Arrays.sort(methods, Comparator.comparing(Method::getName));
            for (Method test : methods) {
                if (test.getName().indexOf('_') > 0 && !Modifier.isPrivate(test.getModifiers())) {
                    run(test);
                    named.add(test.getName().substring(0, test.getName().indexOf('_')));
                    ran++;
                }
            }
        }
        Script.promise("tests of sentences");
        for (int k = 1; k <= PROMISES; k++) {
            Script.compare("promise " + k + " has a test", String.valueOf(named.contains("promise" + k)), "true");
        }
        System.out.println(ran + " sentences");
        Script.finish();
    }

    private static void run(Method test) throws ReflectiveOperationException {
        Script.promise(test.getName());
        int before = Script.compared();
        test.invoke(null);
        Script.compare("a test", Script.compared() > before ? "something" : "nothing", "something");
    }
}
