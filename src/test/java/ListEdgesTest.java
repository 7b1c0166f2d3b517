import java.util.Arrays;

/** Each boundary that the document names for promises 12 and 13 (lists). */
public final class ListEdgesTest {

    private static final Edges E = new Edges(ListEdgesTest.class);
    private static final int D = Edges.SCALE_AT;
    private static final int L = Edges.SHORTS_AT;
    private static final int[] SIX_BY_THREES = {1, 5, 3, 0, 9, 99, 27, 2, 81, 7, 99, 1};

    public static void main(String[] args) {
        E.runAll();
    }

    private static FourStones listed(FourStones x, int... weights) {
        return Edges.row(x, L, Checks.SHORTS, weights);
    }

    private static void list(int[] stones, int want, int... weights) {
        E.stays("list " + Arrays.toString(weights), () -> listed(Edges.shop(stones), weights), x -> x.list(D, L), want);
    }

    private static void cheapest(int[] stones, int there, int set, int price, int... weights) {
        String call = "cheapest " + Arrays.toString(weights) + " with " + there;
        E.stays(call, () -> listed(Edges.shop(stones), weights), x -> x.cheapest(D, L, there, 0), set);
        E.stays(call + ": PRICES", () -> listed(Edges.shop(stones), weights), x -> x.cheapest(D, L, there, 1), price);
    }

    /** A row that is not as told is told by both calls. */
    private static void noList(int... weights) {
        list(SIX_BY_THREES, -13, weights);
        cheapest(SIX_BY_THREES, 0, -13, -13, weights);
        cheapest(SIX_BY_THREES, 63, -13, -13, weights);
    }

    // ---- what a list is

    private static void promise12From1To8Weights() {
        noList();
        list(SIX_BY_THREES, 1, 1);
        list(SIX_BY_THREES, 7, 1, 2, 3, 4, 5, 6, 7, 8);
        noList(1, 2, 3, 4, 5, 6, 7, 8, 9);
        noList(new int[100]);
        int[] hundred = new int[100];
        Arrays.fill(hundred, 1);
        noList(hundred);
    }

    private static void promise12WeightsFrom1To999() {
        list(SIX_BY_THREES, 1, 1);
        list(SIX_BY_THREES, -4, 999);
        noList(0);
        noList(1000);
        noList(-1);
        noList(32767);
        noList(-32768);
        noList(1, 2, 3, 4, 5, 6, 7, 0);
        noList(1, 2, 3, 4, 5, 6, 7, 1000);
        noList(0, 1);
        noList(999, 1000);
    }

    private static void promise12WhatIsPutKeepsItsLowestBits() {
        list(SIX_BY_THREES, 1, 65536 + 1);
        list(SIX_BY_THREES, 2, 3 - 65536);
        noList(65536);
        noList(32768);
        noList(Edges.MIN);
        noList(Edges.MAX);
        list(SIX_BY_THREES, 4, Edges.MIN + 9);
    }

    private static void promise12TheEighthCounts() {
        list(SIX_BY_THREES, 15, 1, 2, 3, 4, 5, 6, 7, 14);
        list(SIX_BY_THREES, -4, 1, 2, 3, 4, 5, 6, 7, 221);
        list(SIX_BY_THREES, -4, 221, 1, 2, 3, 4, 5, 6, 7);
        list(SIX_BY_THREES, 63, 220, 220, 220, 220, 220, 220, 220, 220);
    }

    private static void promise12To999() {
        int[] stones = {99, 1, 1, 1, 1, 1};
        E.stays("999 by ARMS", () -> listed(Edges.scale(Edges.shop(stones), 2, 9), 999), x -> x.list(D, L), 7);
        E.stays("990 by ARMS", () -> listed(Edges.scale(Edges.shop(stones), 2, 9), 990), x -> x.list(D, L), 1);
        E.stays("both", () -> listed(Edges.scale(Edges.shop(stones), 2, 9), 990, 999), x -> x.list(D, L), 7);
        E.stays("cheapest 999", () -> listed(Edges.scale(Edges.shop(stones), 2, 9), 999), x -> x.cheapest(D, L, 0, 1), 3);
    }

    // ---- which set

    private static void promise12NoneAndAllStones() {
        list(new int[0], -4, 1);
        list(new int[] {1, 0}, 1, 1);
        list(new int[] {1, 0}, -4, 2);
        list(SIX_BY_THREES, 63, 220);
        list(SIX_BY_THREES, -4, 221);
        E.stays("without stones by OFF, none above 0", () -> listed(Edges.scale(Edges.bare(), 3, 1), 1), x -> x.list(D, L), -4);
    }

    private static void promise12FewestAheadOfPrices() {
        list(new int[] {4, 0, 5, 0, 9, 99}, 4, 9);
        list(new int[] {9, 99, 4, 0, 5, 0}, 1, 9);
        list(new int[] {3, 0, 3, 0, 3, 0, 4, 99, 5, 99}, 24, 9);
    }

    private static void promise12PricesAheadOfBits() {
        list(new int[] {9, 2, 9, 1}, 2, 9);
        list(new int[] {9, 1, 9, 2}, 1, 9);
        list(new int[] {4, 9, 5, 9, 3, 9, 6, 8}, 12, 9);
        list(new int[] {9, 99, 9, 98}, 2, 9);
    }

    private static void promise12OfOnePriceTheLeastBits() {
        list(new int[] {9, 1, 9, 1}, 1, 9);
        list(new int[] {4, 1, 3, 1, 6, 1, 5, 1}, 6, 9);
        list(new int[] {8, 7, 9, 0, 9, 0, 9, 0, 9, 0, 9, 0}, 2, 9);
    }

    private static void promise12BySomeOfTheSetAtATime() {
        list(new int[] {1, 0, 2, 0, 3, 0}, 3, 1, 2, 3);
        list(new int[] {2, 0, 3, 0, 6, 0}, 3, 1, 5);
        list(new int[] {2, 0, 3, 0, 6, 0}, 7, 1, 5, 11);
    }

    private static void promise12ByEachScale() {
        int[] wants = {3, 3, 3, 4, 3, 3, 6, 4};
        int[] figures = {0, 0, 0, 1, 0, 0, 0, 1};
        for (int kind = 0; kind < 8; kind++) {
            int k = kind;
            E.stays("3 by kind " + kind, () -> listed(Edges.scale(Edges.shop(1, 1, 2, 1, 4, 1), k, figures[k]), 3),
                    x -> x.list(D, L), wants[kind]);
        }
        E.stays("one pan alone by ONE", () -> listed(Edges.scale(Edges.shop(1, 1, 4, 1), 1, 0), 3), x -> x.list(D, L), -4);
        E.stays("two right by THREE", () -> listed(Edges.scale(Edges.shop(1, 1, 2, 1, 4, 1), 4, 0), 14), x -> x.list(D, L), -4);
    }

    private static void promise12AskedAgainForAnotherList() {
        FourStones x = Edges.shop(SIX_BY_THREES);
        int[][] lists = {{1}, {81}, {9, 1}, {220}, {3, 3, 3}, {221}, {1}};
        int[] wants = {1, 16, 5, 63, 2, -4, 1};
        for (int i = 0; i < lists.length; i++) {
            listed(x, lists[i]);
            E.due("list " + Arrays.toString(lists[i]), x.list(D, L), wants[i]);
        }
        Edges.scale(x, 3, 9);
        E.due("1 by OFF: 9 and 1", x.list(D, L), 5);
    }

    // ---- the cheapest

    private static void promise13PricesAheadOfFewest() {
        cheapest(new int[] {9, 40, 4, 20, 5, 19}, 0, 6, 39, 9);
        cheapest(new int[] {9, 40, 4, 20, 5, 20}, 0, 1, 40, 9);
        cheapest(new int[] {9, 40, 4, 20, 5, 21}, 0, 1, 40, 9);
        cheapest(new int[] {60, 6, 10, 1, 10, 1, 10, 1, 10, 1, 20, 1}, 0, 62, 5, 60);
        cheapest(new int[] {60, 5, 10, 1, 10, 1, 10, 1, 10, 1, 20, 1}, 0, 1, 5, 60);
        cheapest(new int[] {60, 99, 10, 0, 10, 0, 10, 0, 10, 0, 20, 0}, 0, 62, 0, 60);
    }

    private static void promise13FewestAheadOfBits() {
        cheapest(new int[] {4, 1, 5, 1, 9, 2}, 0, 4, 2, 9);
        cheapest(new int[] {9, 1, 9, 1}, 0, 1, 1, 9);
        cheapest(new int[] {4, 0, 5, 0, 9, 0}, 0, 4, 0, 9);
    }

    private static void promise13AllAtTheHighestPrices() {
        int[] stones = {1, 99, 3, 99, 9, 99, 27, 99, 81, 99, 99, 99};
        cheapest(stones, 0, 63, 594, 220);
        cheapest(stones, 32, 63, 495, 220);
        cheapest(stones, 63, 63, 0, 220);
        cheapest(stones, 63, -4, -4, 221);
    }

    private static void promise13SomeThereAlready() {
        int[] stones = {4, 20, 5, 20, 9, 30, 9, 10};
        cheapest(stones, 0, 8, 10, 9);
        cheapest(stones, 1, 9, 10, 9);
        cheapest(stones, 3, 3, 0, 9);
        cheapest(stones, 4, 4, 0, 9);
        cheapest(stones, 7, 7, 0, 9);
        cheapest(stones, 15, 15, 0, 9);
        cheapest(new int[] {4, 20, 5, 10, 9, 10}, 1, 3, 10, 9);
    }

    private static void promise13ThereOnlyStonesThatThereAre() {
        int[] all = {1, 5, 3, 0, 9, 99, 27, 2, 81, 7, 99, 1};
        for (int count = 0; count <= 6; count++) {
            int[] stones = Arrays.copyOf(all, 2 * count);
            int most = (1 << count) - 1;
            E.stays("with all " + count, () -> listed(Edges.shop(stones), 1), x -> x.cheapest(D, L, most, 0), count == 0 ? -4 : most);
            for (int there : new int[] {most + 1, -1, 64, Edges.MIN, Edges.MAX}) {
                for (int what = 0; what < 2; what++) {
                    int asked = what;
                    E.stays("with " + there + " of " + count, () -> listed(Edges.shop(stones), 1),
                            x -> x.cheapest(D, L, there, asked), -1);
                }
            }
        }
    }

    private static void promise13What0And1Alone() {
        for (int what : new int[] {-1, 2, Edges.MIN, Edges.MAX}) {
            for (int d = 0; d < 8; d++) {
                for (int e = 0; e < 8; e++) {
                    int scale = d;
                    int row = e;
                    E.due("cheapest(" + d + ", " + e + ", 0, " + what + ")", Edges.full().cheapest(scale, row, 0, what), -1);
                }
            }
            E.stays("what " + what, Edges::full, x -> x.cheapest(D, L, 0, what), -1);
        }
    }

    // ---- refusals

    private static void both(String call, int d, int e, int want) {
        E.stays("list: " + call, Edges::full, x -> x.list(d, e), want);
        E.stays("cheapest: " + call, Edges::full, x -> x.cheapest(d, e, 0, 0), want);
        E.stays("cheapest: PRICES, " + call, Edges::full, x -> x.cheapest(d, e, 63, 1), want);
    }

    private static void promise12EitherShelfAheadOfAll() {
        for (int none : Edges.NO_SHELVES) {
            for (int d = 0; d < 8; d++) {
                both("shelf " + none + " by " + d, none, d, -1);
                both("by shelf " + d + " of " + none, d, none, -1);
            }
            both("neither, " + none, none, none, -1);
        }
    }

    private static void promise12TheScaleAheadOfTheRow() {
        for (int e = 0; e < 8; e++) {
            both("nothing, by " + e, Edges.NOTHING_AT, e, -11);
            for (int d : new int[] {Edges.BYTES_AT, Edges.SHORTS_AT, Edges.INTS_AT, Edges.EMPTY_AT}) {
                both("a row at " + d + ", by " + e, d, e, -12);
            }
        }
        for (int d : new int[] {Edges.SCALE_AT, Edges.HALF_AT, Edges.GRAIN_AT}) {
            both("scale " + d + ", nothing", d, Edges.NOTHING_AT, -11);
            both("scale " + d + ", no row", d, Edges.SCALE_AT, -12);
            both("scale " + d + ", bytes", d, Edges.BYTES_AT, -12);
            both("scale " + d + ", no bytes", d, Edges.EMPTY_AT, -12);
            both("scale " + d + ", ints", d, Edges.INTS_AT, -12);
        }
    }

    private static void promise12AnotherSortAheadOfNotAsTold() {
        for (int sort : new int[] {Checks.BYTES, Checks.INTS}) {
            E.stays("none of sort " + sort, () -> Edges.row(Edges.full(), L, sort), x -> x.list(D, L), -12);
            E.stays("0 of sort " + sort, () -> Edges.row(Edges.full(), L, sort, 0), x -> x.list(D, L), -12);
            E.stays("1 of sort " + sort, () -> Edges.row(Edges.full(), L, sort, 1), x -> x.list(D, L), -12);
            E.stays("cheapest: 0 of sort " + sort, () -> Edges.row(Edges.full(), L, sort, 0), x -> x.cheapest(D, L, 0, 0), -12);
        }
    }

    private static void promise13NoSuchStoneAheadOfAll() {
        for (int d = 0; d < 8; d++) {
            for (int e = 0; e < 8; e++) {
                E.due("with 64 at " + d + " by " + e, Edges.full().cheapest(d, e, 64, 0), -1);
                E.due("with -1 at " + d + " by " + e, Edges.full().cheapest(d, e, -1, 1), -1);
            }
        }
    }

    private static void promise12OnTheFirstAndTheLastShelf() {
        FourStones x = Checks.four();
        x.keep(0, 1, 0, 0);
        Checks.row(x, 7, Checks.SHORTS, 40);
        E.due("list(0, 7)", x.list(0, 7), 15);
        E.due("cheapest(0, 7, 15, 1)", x.cheapest(0, 7, 15, 1), 0);
        x.keep(7, 1, 0, 0);
        Checks.row(x, 0, Checks.SHORTS, 40);
        E.due("list(7, 0)", x.list(7, 0), 15);
        E.due("cheapest(7, 0, 0, 1)", x.cheapest(7, 0, 0, 1), 18);
    }
}
