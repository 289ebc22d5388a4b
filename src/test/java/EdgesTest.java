import java.lang.reflect.Method;
import java.lang.reflect.Modifier;
import java.util.Map;
import java.util.TreeMap;

/**
 * The boundary cases that the document names, each with a test of its own: a method named by its promise.
 * A test that is added to one of these classes is found by its name; a promise without any is told.
 */
public final class EdgesTest {
    private static final Class<?>[] TESTS = {EdgesTold.class, EdgesTexts.class, EdgesFaults.class, EdgesLaws.class,
        EdgesDone.class, EdgesHours.class, EdgesYears.class, EdgesSteps.class, EdgesState.class, EdgesWays.class, EdgesShapes.class,
        EdgesHands.class, EdgesImage.class, EdgesAsked.class};
    private static final int PROMISES = 51;

    public static void main(String[] args) throws ReflectiveOperationException {
        Map<String, Method> tests = new TreeMap<>();
        for (Class<?> one : TESTS) {
            for (Method m : one.getDeclaredMethods()) {
                if (m.getName().startsWith("promise") && Modifier.isStatic(m.getModifiers())) {
                    Check.due(m.getName() + " is there twice", tests.put(m.getName(), m) != null, false);
                }
            }
        }
        boolean[] has = new boolean[PROMISES + 1];
        for (Method m : tests.values()) {
            has[Integer.parseInt(m.getName().substring(7, 9))] = true;
            m.invoke(null);
        }
        for (int i = 1; i <= PROMISES; i++) {
            Check.due("promise " + i + " has a test of its edges", has[i], true);
        }
        Check.end("EdgesTest, " + tests.size() + " tests");
    }
}
