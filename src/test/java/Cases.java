import java.lang.reflect.InvocationTargetException;
import java.lang.reflect.Method;
import java.util.Map;
import java.util.TreeMap;

/**
 * Runs the cases of a test: its static methods that are named by a promise and what it says there,
 * as p02_sixtyOneBytesAreFull. They are found by their names, so that none can be left out.
 */
final class Cases {
    private Cases() {
    }

    static void run(Class<?> test, Due due) {
        Map<String, Method> cases = new TreeMap<>();
        for (Method method : test.getDeclaredMethods()) {
            if (method.getName().matches("p\\d\\d_\\w+")) {
                cases.put(method.getName(), method);
            }
        }
        int failed = 0;
        for (Map.Entry<String, Method> one : cases.entrySet()) {
            if (!holds(one.getKey(), one.getValue(), due)) {
                failed++;
                System.out.println("FAILED case: " + test.getName() + " " + one.getKey());
            }
        }
        System.out.println(cases.size() + " cases, " + failed + " failed");
        due.end();
    }

    /** A case that holds nothing would pass whatever the class does: that is a fault of the case. */
    private static boolean holds(String name, Method method, Due due) {
        int wrong = due.wrong();
        int held = due.held();
        due.promise(name);
        try {
            method.setAccessible(true);
            method.invoke(null);
        } catch (InvocationTargetException e) {
            due.is(name, "threw " + e.getCause(), "no exception");
        } catch (IllegalAccessException e) {
            due.is(name, e.toString(), "a case that can be called");
        }
        if (due.held() == held) {
            due.is(name, "nothing held", "an answer held");
        }
        return due.wrong() == wrong;
    }
}
