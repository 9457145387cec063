import java.lang.reflect.InvocationTargetException;
import java.lang.reflect.Method;
import java.util.Arrays;
import java.util.Comparator;

/** Runs every case of a promise by itself; one that looks at nothing, or breaks off, does not hold. */
final class Cases {
    private Cases() {
    }

    static void runAll(Class<?> promise) {
        Method[] methods = promise.getDeclaredMethods();
        Arrays.sort(methods, Comparator.comparing(Method::getName));
        int cases = 0;
        for (Method method : methods) {
            Case kept = method.getAnnotation(Case.class);
            if (kept != null) {
                Check.begin(promise.getSimpleName() + "." + method.getName() + " [" + kept.value() + "]: ");
                run(method);
                cases++;
            }
        }
        Check.begin("");
        System.out.println(cases + " cases");
        Check.end();
    }

    private static void run(Method method) {
        int before = Check.madeSoFar();
        try {
            method.invoke(null);
        } catch (InvocationTargetException e) {
            Check.compare("the case", "broke off with " + e.getCause(), "goes on to its end");
        } catch (IllegalAccessException e) {
            Check.compare("the case", "can't be run", "is run");
        }
        if (Check.madeSoFar() == before) {
            Check.compare("the case", "looked at nothing", "looks at something");
        }
    }
}
