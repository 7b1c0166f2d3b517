/** Promises 12 and 13 (lists). */
public final class ListsTest {

    private static final Checks CHECKS = new Checks("lists");
    private static final int D = 3;
    private static final int E = 1;

    public static void main(String[] args) {
        promise12FewestThenPricesThenBits();
        promise12ByTheScale();
        promise13PricesThenFewestThenBits();
        promise13WithSomeThere();
        refusals();
        CHECKS.end();
    }

    private static void due(String call, long got, long want) {
        CHECKS.due(call, got, want);
    }

    private static FourStones shop(int... weightsAndPrices) {
        FourStones x = Checks.stones(weightsAndPrices);
        x.keep(D, 1, 0, 0);
        return x;
    }

    private static void list(FourStones x, int... weights) {
        Checks.row(x, E, Checks.SHORTS, weights);
    }

    private static void promise12FewestThenPricesThenBits() {
        FourStones x = shop(4, 1, 5, 1, 9, 50, 9, 40, 9, 40);
        list(x, 9);
        due("the fewest, then the least prices, then the least bits", x.list(D, E), 8);
        list(x, 9, 9, 9);
        due("the same weight again", x.list(D, E), 8);
        list(x, 9, 5);
        due("two stones", x.list(D, E), 3);
        list(x, 1, 4, 5, 9);
        due("all by one pair", x.list(D, E), 3);
        list(x, 999);
        due("none", x.list(D, E), -4);
        list(x, 1, 9, 999);
        due("not all", x.list(D, E), -4);
        due("no stones", emptyList(), -4);
        list(x, 1, 2, 3, 4, 5, 6, 7, 8);
        due("eight", x.list(D, E), -4);
        FourStones dropped = shop(4, 1, 7, 1);
        Checks.read(dropped, "x;");
        list(dropped, 7);
        due("not by a stone that is no more", dropped.list(D, E), -4);
        FourStones y = shop(1, 9, 3, 9, 9, 9);
        list(y, 1, 2, 3, 4, 5, 6, 7, 8);
        due("eight, had", y.list(D, E), 7);
        list(y, 12, 6);
        due("two of three", y.list(D, E), 6);
    }

    private static int emptyList() {
        FourStones x = shop();
        list(x, 1);
        return x.list(D, E);
    }

    private static void promise12ByTheScale() {
        FourStones x = shop(4, 1, 5, 1);
        list(x, 1);
        x.keep(D, 1, 1, 0);
        due("1 isn't had in one pan", x.list(D, E), -4);
        x.keep(D, 1, 3, 3);
        due("1 is had by 4 less 3", x.list(D, E), 1);
        x.keep(D, 1, 6, 0);
        list(x, 2);
        due("2 is half of 4, and of 5", x.list(D, E), 1);
    }

    private static void promise13PricesThenFewestThenBits() {
        FourStones x = shop(4, 20, 5, 20, 9, 40, 9, 50, 9, 40);
        list(x, 9);
        due("of one price the fewest", x.cheapest(D, E, 0, 0), 4);
        due("its price", x.cheapest(D, E, 0, 1), 40);
        Checks.read(x, "p0 19;");
        due("the cheapest", x.cheapest(D, E, 0, 0), 3);
        due("its price, too", x.cheapest(D, E, 0, 1), 39);
        list(x, 999);
        due("none", x.cheapest(D, E, 0, 0), -4);
        due("none, its price", x.cheapest(D, E, 0, 1), -4);
        FourStones close = shop(9, 40, 4, 20, 5, 19);
        list(close, 9);
        due("cheaper by 1, though more and of greater bits", close.cheapest(D, E, 0, 0), 6);
        due("the fewest all the same", close.list(D, E), 1);
        FourStones free = shop(9, 0, 9, 0);
        list(free, 9);
        due("free ones: the fewest and the least bits", free.cheapest(D, E, 0, 0), 1);
        due("free ones: price", free.cheapest(D, E, 0, 1), 0);
    }

    private static void promise13WithSomeThere() {
        FourStones x = shop(4, 20, 5, 20, 9, 30, 9, 10);
        list(x, 9);
        due("there: two lighter ones", x.cheapest(D, E, 3, 0), 3);
        due("there: at no price", x.cheapest(D, E, 3, 1), 0);
        due("there: one lighter", x.cheapest(D, E, 1, 0), 9);
        due("there: one lighter, price", x.cheapest(D, E, 1, 1), 10);
        due("all there", x.cheapest(D, E, 15, 0), 15);
        due("all there, price", x.cheapest(D, E, 15, 1), 0);
        Checks.read(x, "p3 20;");
        due("there: of one price the fewest, the least bits", x.cheapest(D, E, 1, 0), 3);
    }

    private static void refusals() {
        FourStones x = shop(1, 1, 3, 3);
        list(x, 1);
        due("list: shelf d", x.list(8, E), -1);
        due("list: shelf e", x.list(D, -1), -1);
        due("list: shelf e ahead of nothing at d", x.list(5, 8), -1);
        due("list: nothing at d", x.list(5, E), -11);
        due("list: a row at d", x.list(E, E), -12);
        due("list: a row at d ahead of nothing at e", x.list(E, 5), -12);
        due("list: nothing at e", x.list(D, 5), -11);
        due("list: a scale at e", x.list(D, D), -12);
        due("cheapest: shelf d", x.cheapest(-1, E, 0, 0), -1);
        due("cheapest: shelf e", x.cheapest(D, 8, 0, 0), -1);
        due("cheapest: no such stone there", x.cheapest(D, E, 4, 0), -1);
        due("cheapest: there -1", x.cheapest(D, E, -1, 0), -1);
        due("cheapest: what 2", x.cheapest(D, E, 0, 2), -1);
        due("cheapest: what -1", x.cheapest(D, E, 0, -1), -1);
        due("cheapest: what 2 ahead of nothing", x.cheapest(5, E, 0, 2), -1);
        due("cheapest: nothing at d", x.cheapest(5, E, 0, 0), -11);
        due("cheapest: a row at d", x.cheapest(E, E, 0, 0), -12);
        due("cheapest: nothing at e", x.cheapest(D, 5, 0, 0), -11);
        due("cheapest: a scale at e", x.cheapest(D, D, 0, 0), -12);
        int[][] wrong = {{}, {0}, {1000}, {-1}, {1, 2, 0}, {1, 1, 1, 1, 1, 1, 1, 1, 1}};
        for (int[] weights : wrong) {
            list(x, weights);
            due("list not as told, size " + weights.length, x.list(D, E), -13);
            due("cheapest not as told, size " + weights.length, x.cheapest(D, E, 0, 1), -13);
        }
        Checks.row(x, E, Checks.BYTES, 1);
        due("list: bytes", x.list(D, E), -12);
        due("cheapest: bytes", x.cheapest(D, E, 0, 0), -12);
        Checks.row(x, E, Checks.INTS, 1);
        due("list: ints", x.list(D, E), -12);
        due("cheapest: ints", x.cheapest(D, E, 0, 0), -12);
    }
}
