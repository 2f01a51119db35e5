import java.lang.reflect.InvocationTargetException;
import java.lang.reflect.Method;
import java.util.Arrays;
import java.util.Comparator;

/** Runs every test of a boundary case, and tells what of the document none of them quotes. */
public final class BoundaryTests {
    private static final Class<?>[] GROUPS = {TextBoundaries.class, ProjectBoundaries.class, ScheduleBoundaries.class,
        ChangeBoundaries.class};

    public static void main(String[] args) throws IllegalAccessException {
        boolean[] tested = new boolean[Document.PROMISES + 1];
        for (Class<?> group : GROUPS) {
            Method[] methods = group.getDeclaredMethods();
            Arrays.sort(methods, Comparator.comparing(Method::getName));
            for (Method method : methods) {
                if (method.getName().matches("p\\d\\d_.*")) {
                    run(method);
                    tested[Integer.parseInt(method.getName().substring(1, 3))] = true;
                }
            }
        }
        for (int promise = 1; promise <= Document.PROMISES; promise++) {
            Boundary.check.equal("tests of promise " + promise, tested[promise], true);
        }
        for (String sentence : Boundary.document.unquoted()) {
            Boundary.check.equal(sentence, "quoted by no test", "quoted by a test");
        }
        Boundary.check.finish();
    }

    private static void run(Method test) throws IllegalAccessException {
        Boundary.begin(test.getName());
        try {
            test.invoke(null);
        } catch (InvocationTargetException thrown) {
            thrown.getCause().printStackTrace(System.out);
            Boundary.check.equal(test.getName(), thrown.getCause().toString(), "no exception");
        }
    }
}
