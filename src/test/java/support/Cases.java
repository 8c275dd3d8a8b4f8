import java.lang.reflect.InvocationTargetException;
import java.lang.reflect.Method;
import java.lang.reflect.Modifier;
import java.util.Map;
import java.util.TreeMap;

/**
 * Runs a test's cases, one for each boundary that the document names: the methods without parameters that
 * are named p, the promise's number, an underline and the case. What is wrong is told with the case's name.
 */
final class Cases {
    /** A call, with its answer as a long. */
    interface Act {
        long ask(WhenItWas x);
    }

    /** What an object was told before; each time a new object that is told the same. */
    interface Scene {
        WhenItWas make();
    }

    private static Check check = new Check("Cases");
    private static String running = "";

    private Cases() {
    }

    static void run(Class<?> test, int firstPromise, int lastPromise) throws IllegalAccessException {
        check = new Check(test.getSimpleName());
        Map<String, Method> cases = new TreeMap<>();
        for (Method m : test.getDeclaredMethods()) {
            if (m.getName().matches("p[0-9][0-9]_.*")) cases.put(m.getName(), m);
        }
        for (int promise = firstPromise; promise <= lastPromise; promise++) {
            String start = String.format("p%02d_", promise);
            boolean has = cases.keySet().stream().anyMatch(name -> name.startsWith(start));
            check.due("cases of promise " + promise, has ? 1 : 0, 1);
        }
        for (Method m : cases.values()) {
            runCase(m);
        }
        System.out.println(test.getSimpleName() + ": " + cases.size() + " cases");
        check.end();
    }

    private static void runCase(Method m) throws IllegalAccessException {
        running = m.getName();
        int before = check.asked();
        check.due(running + " is static", Modifier.isStatic(m.getModifiers()) ? 1 : 0, 1);
        m.setAccessible(true);
        try {
            m.invoke(null);
        } catch (InvocationTargetException e) {
            e.getCause().printStackTrace(System.out);
            check.due(running + " ended without a throw", 0, 1);
        }
        check.due(running + " asked something", check.asked() > before + 1 ? 1 : 0, 1);
    }

    static void due(String call, long got, long want) {
        check.due(running + ": " + call, got, want);
    }

    /** The call is refused with this answer, and the object is then as one that was not called. */
    static void refused(Scene scene, String call, Act act, long answer) {
        refusedOrFound(scene, call, act, answer, scene.make().count(8));
    }

    static void bad(String call, Act act) {
        refused(Scenes::busy, call, act, WhenItWas.BAD);
    }

    /** The call answers a finding, and the object is then as one that was not called, but for count(8). */
    static void finds(Scene scene, String call, Act act, int number) {
        refusedOrFound(scene, call, act, -10 - number, number);
    }

    static void refusedOrFound(Scene scene, String call, Act act, long answer, int finding) {
        WhenItWas asked = scene.make();
        due(call, act.ask(asked), answer);
        due(call + ": count(8) then", asked.count(8), finding);
        due(call + ": the rest is as it was", Scenes.picture(asked).equals(Scenes.picture(scene.make())) ? 1 : 0, 1);
    }

    /** The call changes nothing that can be seen, whatever it answers. */
    static void changesNothing(Scene scene, String call, Act act) {
        WhenItWas asked = scene.make();
        int finding = asked.count(8);
        act.ask(asked);
        due(call + ": count(8) then", asked.count(8), finding);
        due(call + ": all is as it was", Scenes.picture(asked).equals(Scenes.picture(scene.make())) ? 1 : 0, 1);
    }
}
