import java.lang.reflect.InvocationTargetException;
import java.lang.reflect.Method;
import java.lang.reflect.Modifier;
import java.util.Arrays;

/** Every call with every mixture of numbers at some edge: each answer is that of PlainStones, and none is thrown. */
public final class EdgeProductTest {

    private static final int MIN = Integer.MIN_VALUE;
    private static final int MAX = Integer.MAX_VALUE;
    private static final int CALLS = 400;
    private static final int[] MANY = {
        MIN, MIN + 1, -10000, -9999, -1000, -129, -128, -2, -1, 0, 1, 2, 3, 4, 5, 6, 7, 8, 9, 10, 13, 14, 30, 31, 40, 63, 64,
        80, 81, 99, 100, 101, 220, 728, 729, 999, 1000, 9999, 10000, MAX - 1, MAX,
    };
    private static final int[] FEWER = {MIN, -1, 0, 1, 2, 3, 5, 6, 7, 8, 99, 100, 999, 1000, MAX};
    private static final int[] FEW = {MIN, -1, 0, 1, 2, 3, 7, 8, 10, MAX};
    private static final int[] FEWEST = {-1, 0, 1, 2, 7, MAX};
    private static final int[][] BY_ARGUMENTS = {MANY, MANY, MANY, FEWER, FEW, FEWEST};

    private static final Checks CHECKS = new Checks("edge products");

    private FourStones x;
    private PlainStones y;
    private int called;
    private final boolean full;

    private EdgeProductTest(boolean full) {
        this.full = full;
        anew();
    }

    public static void main(String[] args) throws ReflectiveOperationException {
        for (Method method : FourStones.class.getDeclaredMethods()) {
            if (Modifier.isPublic(method.getModifiers())) {
                new EdgeProductTest(true).all(method);
                new EdgeProductTest(false).all(method);
            }
        }
        CHECKS.end();
    }

    private void all(Method method) throws ReflectiveOperationException {
        int count = method.getParameterCount();
        int[] numbers = BY_ARGUMENTS[count];
        Method plain = PlainStones.class.getDeclaredMethod(method.getName(), method.getParameterTypes());
        int[] at = new int[count + 1];
        while (at[count] == 0) {
            Object[] arguments = new Object[count];
            for (int i = 0; i < count; i++) {
                arguments[i] = numbers[at[i]];
            }
            ask(method, plain, arguments);
            int i = 0;
            at[0]++;
            while (i < count && at[i] == numbers.length) {
                at[i] = 0;
                i++;
                at[i]++;
            }
        }
    }

    private void ask(Method method, Method plain, Object[] arguments) throws ReflectiveOperationException {
        if (called == CALLS) {
            anew();
        }
        called++;
        String call = method.getName() + Arrays.toString(arguments) + (full ? " of full" : " of bare");
        long want = ((Number) plain.invoke(y, arguments)).longValue();
        try {
            CHECKS.due(call, ((Number) method.invoke(x, arguments)).longValue(), want);
        } catch (InvocationTargetException e) {
            Throwable thrown = e.getCause();
            boolean ofElement = method.getName().equals("element");
            boolean due = thrown instanceof IllegalArgumentException && want == Long.MIN_VALUE
                    || thrown instanceof IllegalStateException && want == Long.MAX_VALUE;
            CHECKS.holds(call + " threw " + thrown, ofElement && due);
        }
    }

    /** Six stones and the image of two of them, or none of all that; shelf 4 alone holds nothing. */
    private void anew() {
        x = new FourStones();
        y = new PlainStones();
        called = 0;
        if (full) {
            row(0, 0, "s1 5;s3 0;".chars().toArray());
            x.shop(0);
            y.shop(0);
            x.image();
            y.image();
            row(0, 0, "s9 99;s27 2;s81 7;s99 1;".chars().toArray());
            x.shop(0);
            y.shop(0);
        }
        row(0, 0, 1, 1, 3, 0);
        row(1, 1, 1, 4, 13);
        row(2, 2, 0, 0, 1, 1);
        keep(3, 0, 0);
        row(5, 0, 'x', ';');
        keep(6, 6, 3);
        keep(7, 7, 9);
    }

    private void row(int d, int sort, int... cells) {
        x.row(d, sort, cells.length);
        y.row(d, sort, cells.length);
        for (int i = 0; i < cells.length; i++) {
            x.put(d, i, cells[i]);
            y.put(d, i, cells[i]);
        }
    }

    private void keep(int d, int kind, int figure) {
        x.keep(d, 1, kind, figure);
        y.keep(d, 1, kind, figure);
    }
}
