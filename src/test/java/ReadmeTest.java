import java.io.IOException;
import java.lang.reflect.Method;
import java.lang.reflect.Modifier;
import java.nio.file.Files;
import java.nio.file.Path;
import java.util.regex.Matcher;
import java.util.regex.Pattern;

/** The calls that README.md shows answer what it tells behind them. Runs from the root of the checkout. */
public final class ReadmeTest {

    private static final Pattern TEXT = Pattern.compile("String text = \"([^\"]*)\";");
    private static final Pattern CALL = Pattern.compile("x\\.(\\w+)\\((\\d+(?:, \\d+)*)\\); +// (-?\\d+)");
    private static final int SHOWN = 14;

    private static final Checks CHECKS = new Checks("readme");

    public static void main(String[] args) throws IOException, ReflectiveOperationException {
        String readme = Files.readString(Path.of("README.md"));
        showsWhatIsAnswered(readme);
        namesEveryCall(readme);
        CHECKS.end();
    }

    private static void showsWhatIsAnswered(String readme) throws ReflectiveOperationException {
        FourStones x = new FourStones();
        Matcher text = TEXT.matcher(readme);
        CHECKS.holds("a text of stones is shown", text.find());
        Checks.text(x, 0, text.group(1));
        Matcher call = CALL.matcher(readme);
        int shown = 0;
        while (call.find()) {
            CHECKS.due(call.group(), answer(x, call.group(1), call.group(2).split(", ")), Long.parseLong(call.group(3)));
            shown++;
        }
        CHECKS.due("calls that are shown", shown, SHOWN);
    }

    private static long answer(FourStones x, String name, String[] numbers) throws ReflectiveOperationException {
        Class<?>[] types = new Class<?>[numbers.length];
        Object[] arguments = new Object[numbers.length];
        for (int i = 0; i < numbers.length; i++) {
            types[i] = int.class;
            arguments[i] = Integer.valueOf(numbers[i]);
        }
        return ((Number) FourStones.class.getMethod(name, types).invoke(x, arguments)).longValue();
    }

    private static void namesEveryCall(String readme) {
        for (Method method : FourStones.class.getDeclaredMethods()) {
            if (Modifier.isPublic(method.getModifiers())) {
                CHECKS.holds("README.md names " + method.getName(), readme.contains("`" + method.getName() + "`"));
            }
        }
    }
}
