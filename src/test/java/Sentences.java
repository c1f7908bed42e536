import java.lang.reflect.InvocationTargetException;
import java.lang.reflect.Method;
import java.lang.reflect.Modifier;
import java.util.TreeMap;

/**
 * Runs the tests of a class: each of its static methods without arguments is one, of a sentence of
 * the document that the comment ahead of it quotes. So none can be written and then not be run.
 */
final class Sentences {
    private Sentences() { }

    static void run(Class<?> tests) {
        TreeMap<String, Method> each = new TreeMap<>();
        for (Method m : tests.getDeclaredMethods()) {
            if (Modifier.isStatic(m.getModifiers()) && m.getParameterCount() == 0 && m.getReturnType() == void.class) {
                each.put(m.getName(), m);
            }
        }
        for (Method m : each.values()) {
            Due.test(m.getName());
            try {
                m.setAccessible(true);
                m.invoke(null);
            } catch (InvocationTargetException e) {
                Due.holds("threw " + e.getCause(), false);
            } catch (IllegalAccessException e) {
                Due.holds("can't be run", false);
            }
        }
        Due.holds("there are tests", !each.isEmpty());
        System.out.println(each.size() + " sentences");
        Due.end();
    }
}
