import java.lang.reflect.InvocationTargetException;
import java.lang.reflect.Method;
import java.util.ArrayList;
import java.util.Comparator;
import java.util.List;
import java.util.Set;
import java.util.TreeSet;

/**
 * Runs the boundary cases: every method whose name begins with "promise" and the promise's number, or with "term" and
 * the number of the part of the document's Terms that names it (0 is what stands ahead of or behind the five parts).
 */
public final class BoundaryTest {
    private static final Class<?>[] CASES = {
        TermCases.class, JobCases.class, FoldCases.class, SheetCases.class, BookCases.class, RunCases.class,
    };
    private static final int PROMISES = 52, PARTS = 5;

    private static List<Method> casesOf(Class<?> one) {
        List<Method> cases = new ArrayList<>();
        for (Method method : one.getDeclaredMethods()) {
            if (method.getName().matches("(promise\\d\\d|term\\d)_\\w+")) {
                cases.add(method);
            }
        }
        cases.sort(Comparator.comparing(Method::getName));
        return cases;
    }

    private static void run(Method test) throws ReflectiveOperationException {
        int asked = Bench.T.asked();
        int wrong = Bench.T.wrong();
        Bench.T.begin(test.getName());
        try {
            test.invoke(null);
        } catch (InvocationTargetException thrown) {
            Bench.T.holds(false, "threw " + thrown.getCause());
        }
        Bench.T.holds(Bench.T.asked() > asked, "asked for nothing");
        if (Bench.T.wrong() > wrong) {
            System.out.println("FAILED case " + test.getName());
        }
    }

    public static void main(String[] args) throws ReflectiveOperationException {
        Set<String> numbers = new TreeSet<>();
        int count = 0;
        for (Class<?> one : CASES) {
            for (Method test : casesOf(one)) {
                run(test);
                numbers.add(test.getName().substring(0, test.getName().indexOf('_')));
                count++;
            }
        }
        Bench.T.begin("the names of the cases");
        for (int n = 1; n <= PROMISES; n++) {
            String name = "promise" + n / 10 + n % 10;
            Bench.T.holds(numbers.contains(name), "none is a " + name);
        }
        for (int n = 0; n <= PARTS; n++) {
            Bench.T.holds(numbers.contains("term" + n), "none is a term" + n);
        }
        System.out.println(count + " boundary cases");
        Bench.T.end();
    }
}
