import java.lang.reflect.InvocationTargetException;
import java.lang.reflect.Method;
import java.lang.reflect.Modifier;
import java.util.Arrays;
import java.util.LinkedHashMap;
import java.util.Map;

/** LANGUAGE.md 7: no call throws or fails to end, whatever its arguments are and whatever was told before. */
public final class AnyArgumentsTest {
    private static final Check CHECK = new Check("AnyArgumentsTest");
    private static final int LEAST = Integer.MIN_VALUE, GREATEST = Integer.MAX_VALUE;
    private static final long[] MANY = {LEAST, LEAST + 1, -200001, -100001, -1, 0, 1, 2, 3, 4, 5, 6, 11, 12, 39, 40, 41,
        256, 400, 200001, GREATEST - 1, GREATEST};
    private static final long[] SOME = {LEAST, -1, 0, 1, 3, 12, 40, GREATEST};
    private static final long[] FEW = {LEAST, -1, 0, 2, 11, 40, GREATEST};
    private static final long[] SETS = {Long.MIN_VALUE, Long.MIN_VALUE + 1, -1, 0, 1, 2, 8, 31, 1L << 31, 1L << 32, 1L << 39,
        (1L << 40) - 1, 1L << 40, 1L << 62, Long.MAX_VALUE};
    // An object is used for 512 calls at most; the scenes take up to 120 of them.
    private static final int CALLS_OF_AN_OBJECT = 390;

    private final Cases.Scene scene;
    private final String name;
    private WhenItWas x;
    private int calls = 0;

    private AnyArgumentsTest(String name, Cases.Scene scene) {
        this.name = name;
        this.scene = scene;
        x = scene.make();
    }

    public static void main(String[] args) throws IllegalAccessException {
        Map<String, Cases.Scene> scenes = new LinkedHashMap<>();
        scenes.put("new", WhenItWas::new);
        scenes.put("busy", Scenes::busy);
        scenes.put("torn", Scenes::torn);
        scenes.put("packed", Scenes::packed);
        scenes.put("typed full", Scenes::typedFull);
        scenes.put("thirteen torn", Scenes::thirteenTorn);
        for (Map.Entry<String, Cases.Scene> s : scenes.entrySet()) {
            new AnyArgumentsTest(s.getKey(), s.getValue()).askAll();
        }
        CHECK.end();
    }

    private void askAll() throws IllegalAccessException {
        for (Method m : WhenItWas.class.getDeclaredMethods()) {
            if (Modifier.isPublic(m.getModifiers())) {
                x = scene.make();
                calls = 0;
                askWithRest(m, new Object[m.getParameterCount()], 0);
            }
        }
    }

    private void askWithRest(Method m, Object[] arguments, int next) throws IllegalAccessException {
        if (next == arguments.length) {
            ask(m, arguments);
            return;
        }
        boolean isLong = m.getParameterTypes()[next] == long.class;
        long[] values = isLong ? SETS : arguments.length < 4 ? MANY : arguments.length < 5 ? SOME : FEW;
        for (long v : values) {
            if (isLong) arguments[next] = v;
            else arguments[next] = (int) v;
            askWithRest(m, arguments, next + 1);
        }
    }

    private void ask(Method m, Object[] arguments) throws IllegalAccessException {
        if (calls >= CALLS_OF_AN_OBJECT) {
            x = scene.make();
            calls = 0;
        }
        calls++;
        boolean throwsOne = false;
        try {
            m.invoke(x, arguments);
        } catch (InvocationTargetException e) {
            throwsOne = true;
        }
        CHECK.due(name + ": " + m.getName() + Arrays.toString(arguments) + " throws", throwsOne ? 1 : 0, 0);
    }
}
