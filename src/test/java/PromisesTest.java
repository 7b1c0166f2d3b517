import java.lang.reflect.Method;
import java.util.TreeSet;
import java.util.regex.Matcher;
import java.util.regex.Pattern;

/** No promise is without a test of its boundaries. */
public final class PromisesTest {

    private static final int PROMISES = 37;
    private static final Class<?>[] TESTS = {
        ShopEdgesTest.class, ScaleEdgesTest.class, ListEdgesTest.class, DigitEdgesTest.class, LostEdgesTest.class,
        ShelfEdgesTest.class,
    };

    private static final Checks CHECKS = new Checks("promises");

    public static void main(String[] args) {
        TreeSet<Integer> tested = new TreeSet<>();
        for (Class<?> tests : TESTS) {
            for (Method method : tests.getDeclaredMethods()) {
                Matcher promises = Pattern.compile("^promise(\\d+)(?:And(\\d+))?[A-Z]").matcher(method.getName());
                if (promises.find()) {
                    tested.add(Integer.valueOf(promises.group(1)));
                    tested.add(Integer.valueOf(promises.group(promises.group(2) == null ? 1 : 2)));
                }
            }
        }
        for (int promise = 1; promise <= PROMISES; promise++) {
            CHECKS.holds("promise " + promise + " has a test of its own", tested.contains(promise));
        }
        CHECKS.due("promises", tested.size(), PROMISES);
        CHECKS.end();
    }
}
