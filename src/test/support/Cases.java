import java.lang.annotation.Retention;
import java.lang.annotation.RetentionPolicy;
import java.lang.reflect.InvocationTargetException;
import java.lang.reflect.Method;
import java.util.Arrays;
import java.util.Comparator;

/** Runs the cases of a test class and tells each answer that is not as due. */
final class Cases {
    /** Marks a case; the words of the document that it holds the class to. */
    @Retention(RetentionPolicy.RUNTIME)
    @interface Says {
        String value();
    }

    private static String running = "";
    private static int wrong = 0;

    private Cases() {
    }

    /** Every marked method runs, so that none is left out by being forgotten in a list. */
    static void run(Class<?> test) throws IllegalAccessException {
        Method[] methods = test.getDeclaredMethods();
        Arrays.sort(methods, Comparator.comparing(Method::getName));
        int ran = 0;
        for (Method method : methods) {
            Says says = method.getAnnotation(Says.class);
            if (says != null) {
                running = method.getName() + " (\"" + says.value() + "\")";
                ran++;
                call(method);
            }
        }
        System.out.println(ran + " cases, " + wrong + " answers not as due");
        if (wrong != 0 || ran == 0) {
            System.exit(1);
        }
    }

    private static void call(Method method) throws IllegalAccessException {
        try {
            method.setAccessible(true);
            method.invoke(null);
        } catch (InvocationTargetException thrown) {
            fail("threw " + thrown.getCause());
        }
    }

    static void fail(String what) {
        wrong++;
        System.out.println(running + ": " + what);
    }

    static void due(String call, long got, long want) {
        if (got != want) {
            fail(call + " answered " + got + ", due is " + want);
        }
    }

    static void due(String call, String got, String want) {
        if (!got.equals(want)) {
            fail(call + " answered " + got + ", due is " + want);
        }
    }
}
