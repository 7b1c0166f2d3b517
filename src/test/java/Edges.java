import java.lang.reflect.InvocationTargetException;
import java.lang.reflect.Method;
import java.util.ArrayList;
import java.util.Comparator;
import java.util.List;
import java.util.function.Supplier;
import java.util.function.ToLongFunction;

/**
 * Runs every method of a class whose name begins with promise and a number: each is the test of one sentence.
 * Asks single calls, and looks at all that there is before and behind them.
 */
final class Edges {

    static final int MIN = Integer.MIN_VALUE;
    static final int MAX = Integer.MAX_VALUE;

    /** Shelves as the settings below fill them. */
    static final int BYTES_AT = 0;
    static final int SHORTS_AT = 1;
    static final int INTS_AT = 2;
    static final int SCALE_AT = 3;
    static final int NOTHING_AT = 4;
    static final int HALF_AT = 5;
    static final int EMPTY_AT = 6;
    static final int GRAIN_AT = 7;

    static final int[] NO_SHELVES = {-1, 8, MIN, MAX};

    private final Class<?> tests;
    private String test = "";
    private int asked;
    private int wrong;

    Edges(Class<?> tests) {
        this.tests = tests;
    }

    void runAll() {
        List<Method> methods = new ArrayList<>();
        for (Method method : tests.getDeclaredMethods()) {
            if (promiseOf(method) > 0) {
                methods.add(method);
            }
        }
        methods.sort(Comparator.comparingInt(Edges::promiseOf).thenComparing(Method::getName));
        for (Method method : methods) {
            run(method);
        }
        System.out.println(tests.getName() + ": " + methods.size() + " tests, " + asked + " answers, " + wrong + " not as due");
        if (wrong > 0 || methods.isEmpty()) {
            System.exit(1);
        }
    }

    private void run(Method method) {
        test = method.getName();
        int before = asked;
        try {
            method.setAccessible(true);
            method.invoke(null);
        } catch (InvocationTargetException e) {
            holds("threw " + e.getCause(), false);
        } catch (IllegalAccessException e) {
            holds("can't be run", false);
        }
        holds("asks something", asked > before);
    }

    private static int promiseOf(Method method) {
        String digits = method.getName().replaceFirst("^promise(\\d+)[A-Z]\\w*$", "$1");
        return digits.equals(method.getName()) ? 0 : Integer.parseInt(digits);
    }

    void due(String call, long got, long want) {
        asked++;
        if (got != want) {
            wrong++;
            System.out.println(tests.getName() + "." + test + ": " + call + " answered " + got + ", due is " + want);
        }
    }

    void holds(String what, boolean so) {
        due(what, so ? 1 : 0, 1);
    }

    /** The call answers so, and all that there is stays as it was. */
    void stays(String call, Supplier<FourStones> setting, ToLongFunction<FourStones> asking, long want) {
        FourStones x = setting.get();
        due(call, asking.applyAsLong(x), want);
        same(call, x, setting.get());
    }

    /** All that there is in the one is as in the other one; neither is of use any more behind this. */
    void same(String behind, FourStones x, FourStones y) {
        String got = told(x);
        String want = told(y);
        asked++;
        if (!got.equals(want)) {
            wrong++;
            System.out.println(tests.getName() + "." + test + ": behind " + behind + " there is\n  " + got + "due is\n  " + want);
        }
    }

    // ---- settings

    /** Six stones, the image of the first two of them, and something of each sort on the shelves but one. */
    static FourStones full() {
        FourStones x = Checks.stones(1, 5, 3, 0);
        x.image();
        Checks.read(x, "s9 99;s27 2;s81 7;s99 1;");
        return shelved(x);
    }

    /** No stones and no image, the shelves as in full. */
    static FourStones bare() {
        return shelved(new FourStones());
    }

    /** These stones (weight and price by twos), the shelves as in full. */
    static FourStones shop(int... weightsAndPrices) {
        return shelved(Checks.stones(weightsAndPrices));
    }

    static FourStones shelved(FourStones x) {
        Checks.row(x, BYTES_AT, Checks.BYTES, 'x', ';', 0);
        Checks.row(x, SHORTS_AT, Checks.SHORTS, 1, 4, 300);
        Checks.row(x, INTS_AT, Checks.INTS, 1, 1, 70000);
        x.keep(SCALE_AT, 1, 0, 0);
        x.keep(NOTHING_AT, 0, 0, 0);
        x.keep(HALF_AT, 1, 6, 3);
        x.row(EMPTY_AT, Checks.BYTES, 0);
        x.keep(GRAIN_AT, 1, 7, 9);
        return x;
    }

    static FourStones row(FourStones x, int d, int sort, int... cells) {
        Checks.row(x, d, sort, cells);
        return x;
    }

    static FourStones scale(FourStones x, int kind, int figure) {
        x.keep(SCALE_AT, 1, kind, figure);
        return x;
    }

    // ---- all that there is

    static String told(FourStones x) {
        StringBuilder told = new StringBuilder();
        tellStones(x, told);
        for (int d = 0; d < 8; d++) {
            tellShelf(x, d, told);
        }
        told.append("image ").append(x.restore()).append(": ");
        tellStones(x, told);
        return told.append('\n').toString();
    }

    private static void tellStones(FourStones x, StringBuilder told) {
        for (int what = 0; what < 4; what++) {
            told.append(x.count(what)).append(' ');
        }
        int alone = 1;
        for (int stone = 0; stone < 6; stone++) {
            told.append(x.stone(stone, 0)).append('/').append(x.stone(stone, 1)).append(' ');
            told.append(x.lying(alone, 0)).append(' ').append(x.lying(2 * alone, 1)).append("; ");
            alone *= 3;
        }
    }

    private static void tellShelf(FourStones x, int d, StringBuilder told) {
        int cost = x.cost(d);
        told.append("\n  shelf ").append(d).append(": ").append(cost).append(' ').append(x.toss(d)).append(' ');
        told.append(x.weighs(d, 1)).append(' ').append(x.weighs(d, 2)).append(' ').append(x.weighs(d, 7));
        if (cost != -12) {
            return;
        }
        told.append(" row");
        int size = 0;
        while (Checks.thrown(x, d, size) == 0) {
            told.append(' ').append(x.element(d, size));
            size++;
        }
        told.append(" sort ").append(size > 0 ? sortOf(x, d) : -1);
    }

    /** Puts a number that each sort keeps other bits of: the shelf has been told before. */
    private static int sortOf(FourStones x, int d) {
        x.put(d, 0, 0x10101);
        long kept = x.element(d, 0);
        return kept == 1 ? 0 : kept == 0x101 ? 1 : 2;
    }
}
