import java.lang.reflect.InvocationTargetException;
import java.lang.reflect.Method;
import java.util.Arrays;
import java.util.Comparator;

/** Counts and prints answers that are not the ones due. */
public final class Check {
    private int asked;
    private int wrong;
    private String sentence = "";

    public void due(String call, long want, long got) {
        asked++;
        if (got != want) {
            tell(call + " answered " + got + ", due is " + want);
        }
    }

    public void holds(String what, boolean so) {
        asked++;
        if (!so) {
            tell("does not hold: " + what);
        }
    }

    private void tell(String fault) {
        wrong++;
        if (wrong <= 50) {
            System.out.println(sentence + fault);
        }
    }

    /**
     * Runs the tests of sentences: the static methods with a '_' in their name, which stands
     * between the promise and its sentence. None can be forgotten, and none may ask nothing.
     */
    public void sentences(Class<?> tests) throws IllegalAccessException {
        Method[] methods = tests.getDeclaredMethods();
        Arrays.sort(methods, Comparator.comparing(Method::getName));
        int found = 0;
        for (Method method : methods) {
            if (method.getName().indexOf('_') > 0 && !method.isSynthetic()) {
                found++;
                run(method);
            }
        }
        System.out.println(found + " sentences");
    }

    private void run(Method method) throws IllegalAccessException {
        sentence = method.getName() + ": ";
        int before = asked;
        method.setAccessible(true);
        try {
            method.invoke(null);
        } catch (InvocationTargetException e) {
            holds("it ends without " + e.getCause(), false);
        }
        holds("it asks something", asked > before);
        sentence = "";
    }

    public void end() {
        System.out.println(asked + " asked, " + wrong + " wrong");
        if (wrong != 0 || asked == 0) {
            System.exit(1);
        }
    }
}
