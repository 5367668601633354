import java.lang.reflect.InvocationTargetException;
import java.lang.reflect.Method;
import java.util.Arrays;
import java.util.Comparator;
import java.util.List;

/** Runs the tests of a class, each by itself: every method that takes a Check and nothing else is one. */
final class Edges {
    static void run(Class<?> tests) {
        List<Method> all = testsOf(tests);
        int failed = 0;
        for (Method test : all) {
            String sentence = sentence(test);
            if (!holds(test)) {
                failed++;
                System.out.println("does not hold: " + test.getName() + ", " + sentence);
            }
        }
        System.out.println(all.size() + " boundary cases, " + failed + " do not hold");
        if (failed != 0 || all.isEmpty()) {
            System.exit(1);
        }
    }

    private static List<Method> testsOf(Class<?> tests) {
        return Arrays.stream(tests.getDeclaredMethods())
                .filter(method -> Arrays.equals(method.getParameterTypes(), new Class<?>[] {Check.class}))
                .sorted(Comparator.comparing(Method::getName))
                .toList();
    }

    private static boolean holds(Method test) {
        Check check = new Check();
        try {
            test.invoke(null, check);
        } catch (InvocationTargetException thrown) {
            System.out.println(test.getName() + " threw " + thrown.getCause());
            return false;
        } catch (IllegalAccessException hidden) {
            System.out.println(test.getName() + " can't be run: it is private");
            return false;
        }
        return check.holds();
    }

    private static String sentence(Method test) {
        Edge edge = test.getAnnotation(Edge.class);
        return edge.in() + ": \"" + edge.says() + "\"";
    }
}
