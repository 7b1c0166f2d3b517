import java.util.Arrays;

/** Each boundary that the document names for promises 31 to 37 (shelves). */
public final class ShelfEdgesTest {

    private static final Edges E = new Edges(ShelfEdgesTest.class);
    private static final int[] ROWS = {Edges.BYTES_AT, Edges.SHORTS_AT, Edges.INTS_AT, Edges.EMPTY_AT};
    private static final int[] SCALES = {Edges.SCALE_AT, Edges.HALF_AT, Edges.GRAIN_AT};
    private static final int[] COSTS_AT_0 = {5, 4, 5, 5, 9, 10, 4, 12};
    private static final int[] COSTS_AT_9 = {5, 4, 50, -4, 54, 10, 13, 3};

    public static void main(String[] args) {
        E.runAll();
    }

    /** The call changes this shelf alone: the twin has the others as they were. */
    private static void onlyShelf(String call, int d, FourStones x) {
        FourStones twin = Edges.full();
        x.keep(d, 0, 0, 0);
        twin.keep(d, 0, 0, 0);
        E.same(call, x, twin);
    }

    private static void dueCells(FourStones x, int d, int... want) {
        for (int i = 0; i < want.length; i++) {
            E.due("element(" + d + ", " + i + ")", x.element(d, i), want[i]);
        }
        E.due("no element " + want.length + " on " + d, Checks.thrown(x, d, want.length), 2);
    }

    // ---- promise 31

    private static void promise31EveryShelfKindAndFigure() {
        for (int d = 0; d < 8; d++) {
            FourStones x = new FourStones();
            for (int kind = 0; kind < 8; kind++) {
                for (int figure : new int[] {0, 9}) {
                    E.due("keep(" + d + ", 1, " + kind + ", " + figure + ")", x.keep(d, 1, kind, figure), 0);
                    E.due("cost", x.cost(d), figure == 0 ? COSTS_AT_0[kind] : COSTS_AT_9[kind]);
                }
            }
        }
    }

    private static void promise31OnEachOfWhatIsHeld() {
        for (int d = 0; d < 8; d++) {
            FourStones x = Edges.full();
            E.due("keep(" + d + ", 1, 2, 3)", x.keep(d, 1, 2, 3), 0);
            E.due("cost(" + d + ")", x.cost(d), 20);
            E.due("no row on " + d, x.put(d, 0, 1), -12);
            E.due("keep(" + d + ", 0, 0, 0)", x.keep(d, 0, 0, 0), 0);
            E.due("nothing on " + d, x.cost(d), -11);
            E.due("no row, too, on " + d, x.put(d, 0, 1), -11);
            onlyShelf("keep on " + d, d, x);
        }
    }

    private static void promise31AllShelvesTaken() {
        FourStones x = new FourStones();
        for (int d = 0; d < 8; d++) {
            E.due("keep(" + d + ")", x.keep(d, 1, d, 9), 0);
        }
        for (int d = 0; d < 8; d++) {
            E.due("cost(" + d + ")", x.cost(d), COSTS_AT_9[d]);
        }
        E.due("keep on one that is taken", x.keep(7, 1, 0, 0), 0);
        E.due("cost(7)", x.cost(7), 5);
    }

    private static void promise31NothingWhateverTheOthers() {
        for (int other : new int[] {-1, 0, 8, 10, Edges.MIN, Edges.MAX}) {
            FourStones x = Edges.full();
            E.due("keep(3, 0, " + other + ", " + other + ")", x.keep(3, 0, other, other), 0);
            E.due("nothing", x.cost(3), -11);
            FourStones again = Edges.full();
            again.keep(4, 0, other, other);
            E.same("nothing in place of nothing", again, Edges.full());
        }
    }

    private static void promise31EachNumberInItsRange() {
        for (int d : Edges.NO_SHELVES) {
            for (int what = 0; what < 2; what++) {
                int asked = what;
                E.stays("keep(" + d + ", " + what + ", 0, 0)", Edges::full, x -> x.keep(d, asked, 0, 0), -1);
            }
        }
        for (int d = 0; d < 8; d++) {
            int shelf = d;
            for (int what : new int[] {-1, 2, Edges.MIN, Edges.MAX}) {
                E.stays("keep(" + d + ", " + what + ", 0, 0)", Edges::full, x -> x.keep(shelf, what, 0, 0), -1);
            }
            for (int kind : new int[] {-1, 8, Edges.MIN, Edges.MAX}) {
                E.stays("keep(" + d + ", 1, " + kind + ", 0)", Edges::full, x -> x.keep(shelf, 1, kind, 0), -1);
            }
            for (int figure : new int[] {-1, 10, Edges.MIN, Edges.MAX}) {
                E.stays("keep(" + d + ", 1, 0, " + figure + ")", Edges::full, x -> x.keep(shelf, 1, 0, figure), -1);
            }
        }
    }

    // ---- promise 32

    private static void promise32SizesFrom0To100() {
        for (int sort = 0; sort < 3; sort++) {
            for (int size : new int[] {0, 1, 99, 100}) {
                FourStones x = new FourStones();
                E.due("row(0, " + sort + ", " + size + ")", x.row(0, sort, size), 0);
                dueCells(x, 0, new int[size]);
                E.due("its last", x.put(0, size - 1, 1), size == 0 ? -13 : 0);
                E.due("none behind", x.put(0, size, 1), -13);
            }
        }
    }

    private static void promise32TooLargeAndTooSmall() {
        for (int sort = 0; sort < 3; sort++) {
            int asked = sort;
            for (int d = 0; d < 8; d++) {
                int shelf = d;
                for (int size : new int[] {101, 102, Edges.MAX}) {
                    E.stays("row(" + d + ", " + sort + ", " + size + ")", Edges::full, x -> x.row(shelf, asked, size), -1);
                }
                for (int size : new int[] {-1, -2, Edges.MIN}) {
                    E.stays("row(" + d + ", " + sort + ", " + size + ")", Edges::full, x -> x.row(shelf, asked, size), -14);
                }
            }
        }
    }

    private static void promise32NoSuchShelfOrSortAheadOfTheSize() {
        for (int size : new int[] {0, 100, 101, -1, Edges.MIN}) {
            for (int d : Edges.NO_SHELVES) {
                E.stays("row(" + d + ", 0, " + size + ")", Edges::full, x -> x.row(d, 0, size), -1);
            }
            for (int sort : new int[] {-1, 3, Edges.MIN, Edges.MAX}) {
                E.stays("row(1, " + sort + ", " + size + ")", Edges::full, x -> x.row(1, sort, size), -1);
            }
        }
    }

    private static void promise32OnEachOfWhatIsHeld() {
        for (int d = 0; d < 8; d++) {
            FourStones x = Edges.full();
            E.due("row(" + d + ", 2, 4)", x.row(d, 2, 4), 0);
            dueCells(x, d, 0, 0, 0, 0);
            E.due("no scale on " + d, x.cost(d), -12);
            onlyShelf("row on " + d, d, x);
        }
    }

    private static void promise32AllShelvesTaken() {
        FourStones x = new FourStones();
        for (int d = 0; d < 8; d++) {
            E.due("row(" + d + ")", x.row(d, d % 3, 100), 0);
            x.put(d, 99, d + 1);
        }
        for (int d = 0; d < 8; d++) {
            E.due("element(" + d + ", 99)", x.element(d, 99), d + 1);
            E.due("element(" + d + ", 98)", x.element(d, 98), 0);
        }
    }

    private static void promise32AgainAll0() {
        FourStones x = Edges.row(new FourStones(), 5, Checks.INTS, 1, 2, 3);
        E.due("row again", x.row(5, 2, 3), 0);
        dueCells(x, 5, 0, 0, 0);
        E.due("of another sort", x.row(5, 0, 1), 0);
        x.put(5, 0, 300);
        dueCells(x, 5, 44);
    }

    // ---- promise 33

    private static void promise33KeepsTheLowestBits() {
        int[] put = {0, 1, -1, 127, 128, 129, 255, 256, 257, -128, -129, 32767, 32768, 65535, 65536, -32768, -32769, Edges.MIN, Edges.MAX};
        int[] bytes = {0, 1, -1, 127, -128, -127, -1, 0, 1, -128, 127, -1, 0, -1, 0, 0, -1, 0, -1};
        int[] shorts = {0, 1, -1, 127, 128, 129, 255, 256, 257, -128, -129, 32767, -32768, -1, 0, -32768, 32767, 0, -1};
        int[][] wants = {bytes, shorts, put};
        for (int sort = 0; sort < 3; sort++) {
            FourStones x = new FourStones();
            x.row(6, sort, put.length);
            for (int i = 0; i < put.length; i++) {
                E.due("put(6, " + i + ", " + put[i] + ")", x.put(6, i, put[i]), 0);
            }
            dueCells(x, 6, wants[sort]);
        }
    }

    private static void promise33FromTheFirstToTheLastPlace() {
        for (int d : new int[] {0, 7}) {
            for (int size = 0; size <= 3; size++) {
                FourStones x = new FourStones();
                x.row(d, 1, size);
                for (int i = 0; i < size; i++) {
                    E.due("put(" + d + ", " + i + ") of " + size, x.put(d, i, 10 + i), 0);
                }
                dueCells(x, d, Arrays.copyOf(new int[] {10, 11, 12}, size));
                for (int i : new int[] {size, size + 1, -1, 100, Edges.MIN, Edges.MAX}) {
                    E.due("put(" + d + ", " + i + ") of " + size, x.put(d, i, 5), -13);
                }
            }
        }
    }

    private static void promise33RefusalsInTheirOrder() {
        for (int i : new int[] {0, -1, 3, Edges.MIN, Edges.MAX}) {
            for (int d : Edges.NO_SHELVES) {
                E.stays("put(" + d + ", " + i + ", 1)", Edges::full, x -> x.put(d, i, 1), -1);
            }
            E.stays("nothing", Edges::full, x -> x.put(Edges.NOTHING_AT, i, 1), -11);
            for (int d : SCALES) {
                E.stays("scale " + d + ", place " + i, Edges::full, x -> x.put(d, i, 1), -12);
            }
        }
        for (int i : new int[] {-1, 3, Edges.MIN, Edges.MAX}) {
            for (int d : ROWS) {
                E.stays("row " + d + ", place " + i, Edges::full, x -> x.put(d, i, 1), -13);
            }
        }
        E.stays("the empty row", Edges::full, x -> x.put(Edges.EMPTY_AT, 0, 1), -13);
    }

    private static void promise33OneElementAlone() {
        FourStones x = Edges.row(new FourStones(), 2, Checks.BYTES, 1, 2, 3);
        FourStones y = Edges.row(x, 3, Checks.BYTES, 1, 2, 3);
        E.due("put", y.put(2, 1, -7), 0);
        dueCells(y, 2, 1, -7, 3);
        dueCells(y, 3, 1, 2, 3);
    }

    // ---- promise 34

    private static void promise34FromTheFirstToTheLastPlace() {
        for (int d : new int[] {0, 7}) {
            FourStones x = new FourStones();
            x.row(d, 2, 100);
            x.put(d, 0, Edges.MIN);
            x.put(d, 99, Edges.MAX);
            E.due("the first", x.element(d, 0), Edges.MIN);
            E.due("the last", x.element(d, 99), Edges.MAX);
            for (int i : new int[] {100, -1, Edges.MIN, Edges.MAX}) {
                E.due("element(" + d + ", " + i + ")", Checks.thrown(x, d, i), 2);
            }
        }
    }

    private static void promise34NoSuchShelfAheadOfNoSuchPlace() {
        for (int d : Edges.NO_SHELVES) {
            for (int i : new int[] {0, -1, 100, Edges.MIN, Edges.MAX}) {
                E.stays("element(" + d + ", " + i + ")", Edges::full, x -> Checks.thrown(x, d, i), 1);
            }
        }
    }

    private static void promise34NoRowOrNoSuchPlace() {
        for (int i : new int[] {0, -1, 100, Edges.MIN, Edges.MAX}) {
            E.stays("of nothing", Edges::full, x -> Checks.thrown(x, Edges.NOTHING_AT, i), 2);
            for (int d : SCALES) {
                E.stays("of scale " + d, Edges::full, x -> Checks.thrown(x, d, i), 2);
            }
            E.stays("of the empty row", Edges::full, x -> Checks.thrown(x, Edges.EMPTY_AT, i), 2);
        }
        for (int d : ROWS) {
            E.stays("of the row at " + d, Edges::full, x -> Checks.thrown(x, d, 3), 2);
            E.stays("of the row at " + d, Edges::full, x -> Checks.thrown(x, d, -1), 2);
        }
        E.stays("the last that there is", Edges::full, x -> x.element(Edges.INTS_AT, 2), 70000);
    }

    // ---- promise 35

    private static FourStones two(int sort) {
        FourStones x = Edges.row(Edges.full(), 0, sort, 1, 2, 3, 4, 5);
        return Edges.row(x, 7, sort, 6, 7, 8);
    }

    private static void promise35FromNoneToAll() {
        for (int sort = 0; sort < 3; sort++) {
            for (int n = 0; n <= 3; n++) {
                FourStones x = two(sort);
                E.due("copy(0, 0, 7, 0, " + n + ")", x.copy(0, 0, 7, 0, n), n);
                int[] want = {6, 7, 8};
                System.arraycopy(new int[] {1, 2, 3}, 0, want, 0, n);
                dueCells(x, 7, want);
                dueCells(x, 0, 1, 2, 3, 4, 5);
            }
            FourStones x = two(sort);
            E.due("all of the lesser", x.copy(7, 0, 0, 2, 3), 3);
            dueCells(x, 0, 1, 2, 6, 7, 8);
            dueCells(x, 7, 6, 7, 8);
            FourStones y = two(sort);
            E.due("the last to the last", y.copy(0, 4, 7, 2, 1), 1);
            dueCells(y, 7, 6, 7, 5);
        }
    }

    private static void promise35OfAHundred() {
        FourStones x = new FourStones();
        x.row(0, 2, 100);
        x.row(1, 2, 100);
        for (int i = 0; i < 100; i++) {
            x.put(0, i, i * i);
        }
        E.due("copy(0, 0, 1, 0, 100)", x.copy(0, 0, 1, 0, 100), 100);
        E.due("the first", x.element(1, 0), 0);
        E.due("the last", x.element(1, 99), 99 * 99);
        E.due("copy of 101", x.copy(0, 0, 1, 0, 101), -13);
        E.due("the last to the first", x.copy(0, 99, 1, 0, 1), 1);
        E.due("the first now", x.element(1, 0), 99 * 99);
    }

    private static void promise35WithinOneRowAsFromAnother() {
        for (int i = 0; i <= 5; i++) {
            for (int j = 0; j <= 5; j++) {
                for (int n = 0; n <= 5 - Math.max(i, j); n++) {
                    FourStones x = two(Checks.SHORTS);
                    E.due("copy(0, " + i + ", 0, " + j + ", " + n + ")", x.copy(0, i, 0, j, n), n);
                    int[] want = {1, 2, 3, 4, 5};
                    System.arraycopy(new int[] {1, 2, 3, 4, 5}, i, want, j, n);
                    dueCells(x, 0, want);
                }
            }
        }
    }

    private static void noCopy(int i, int j, int n) {
        E.stays("copy(0, " + i + ", 7, " + j + ", " + n + ")", () -> two(Checks.INTS), x -> x.copy(0, i, 7, j, n), -13);
    }

    private static void promise35PlacesThatAreNotThere() {
        noCopy(-1, 0, 1);
        noCopy(0, -1, 1);
        noCopy(-1, 0, 0);
        noCopy(0, -1, 0);
        noCopy(5, 0, 1);
        noCopy(0, 3, 1);
        noCopy(4, 0, 2);
        noCopy(0, 2, 2);
        noCopy(3, 0, 3);
        noCopy(0, 1, 3);
        noCopy(0, 0, 4);
        noCopy(6, 0, 0);
        noCopy(0, 4, 0);
        E.stays("none at both ends", () -> two(Checks.INTS), x -> x.copy(0, 5, 7, 3, 0), 0);
        E.stays("none of an empty row", Edges::full, x -> x.copy(Edges.EMPTY_AT, 0, Edges.BYTES_AT, 0, 0), 0);
        E.stays("one of an empty row", Edges::full, x -> x.copy(Edges.EMPTY_AT, 0, Edges.BYTES_AT, 0, 1), -13);
        E.stays("one into an empty row", Edges::full, x -> x.copy(Edges.BYTES_AT, 0, Edges.EMPTY_AT, 0, 1), -13);
    }

    private static void promise35NBelow0() {
        for (int n : new int[] {-1, -2, Edges.MIN}) {
            noCopy(0, 0, n);
            noCopy(5, 3, n);
            noCopy(-1, -1, n);
            noCopy(Edges.MAX, Edges.MAX, n);
        }
    }

    private static void promise35WhereAnIntWrapsAround() {
        int[] edges = {Edges.MIN, -1, 1, 2, Edges.MAX - 1, Edges.MAX};
        for (int i : edges) {
            for (int j : edges) {
                for (int n : edges) {
                    boolean done = i > 0 && j > 0 && n > 0 && (long) i + n <= 5 && (long) j + n <= 3;
                    if (!done) {
                        noCopy(i, j, n);
                    }
                }
            }
        }
    }

    private static void promise35RefusalsInTheirOrder() {
        for (int n : new int[] {0, 1, -1, Edges.MAX}) {
            for (int none : Edges.NO_SHELVES) {
                for (int d = 0; d < 8; d++) {
                    int shelf = d;
                    E.stays("copy(" + none + ", 0, " + d + ", 0, " + n + ")", Edges::full, x -> x.copy(none, 0, shelf, 0, n), -1);
                    E.stays("copy(" + d + ", 0, " + none + ", 0, " + n + ")", Edges::full, x -> x.copy(shelf, 0, none, 0, n), -1);
                }
            }
            for (int d = 0; d < 8; d++) {
                int shelf = d;
                E.stays("nothing to " + d, Edges::full, x -> x.copy(Edges.NOTHING_AT, 0, shelf, 0, n), -11);
                E.stays(d + " to nothing", Edges::full, x -> x.copy(shelf, 0, Edges.NOTHING_AT, 0, n), -11);
            }
            otherKinds(n);
        }
    }

    private static void otherKinds(int n) {
        for (int scale : SCALES) {
            for (int row : ROWS) {
                E.stays("scale " + scale + " to row " + row, Edges::full, x -> x.copy(scale, 0, row, 0, n), -12);
                E.stays("row " + row + " to scale " + scale, Edges::full, x -> x.copy(row, 0, scale, 0, n), -12);
            }
            E.stays("scale " + scale + " to itself", Edges::full, x -> x.copy(scale, 0, scale, 0, n), -12);
        }
        int[] sorted = {Edges.BYTES_AT, Edges.SHORTS_AT, Edges.INTS_AT};
        for (int d : sorted) {
            for (int e : sorted) {
                if (d != e) {
                    E.stays("row " + d + " to row " + e, Edges::full, x -> x.copy(d, 0, e, 0, n), -12);
                    E.stays("beyond, row " + d + " to row " + e, Edges::full, x -> x.copy(d, 9, e, -1, n), -12);
                }
            }
        }
    }

    // ---- promises 36 and 37

    private static int failure(int kind, int figure, int cost) {
        if (kind == 5 || figure == 0) {
            return -15;
        }
        return kind == 7 ? 200 + cost : kind == 6 ? 100 + figure : figure;
    }

    private static void promise36And37EveryKindAndFigure() {
        for (int kind = 0; kind < 8; kind++) {
            for (int figure = 0; figure < 10; figure++) {
                int k = kind;
                int f = figure;
                int[] costs = {5, 4, 5 * (f + 1), 5 - f, 5 * (f + 1) + 4, 10, 4 + f, 12 - f};
                String of = " of kind " + kind + ", figure " + figure;
                E.stays("cost" + of, () -> Edges.scale(Edges.full(), k, f), x -> x.cost(Edges.SCALE_AT), costs[kind]);
                E.stays("toss" + of, () -> Edges.scale(Edges.full(), k, f), x -> x.toss(Edges.SCALE_AT), failure(k, f, costs[k]));
            }
        }
    }

    private static void promise36CostsBelow0() {
        int[] wants = {0, -1, -2, -3, -4};
        for (int figure = 5; figure <= 9; figure++) {
            int f = figure;
            E.stays("OFF, figure " + figure, () -> Edges.scale(Edges.bare(), 3, f), x -> x.cost(Edges.SCALE_AT), wants[figure - 5]);
        }
    }

    private static void promise37NoneThatFails() {
        for (int figure = 0; figure <= 9; figure++) {
            int f = figure;
            E.stays("SIGNLESS, figure " + figure, () -> Edges.scale(Edges.bare(), 5, f), x -> x.toss(Edges.SCALE_AT), -15);
        }
        for (int kind = 0; kind < 8; kind++) {
            int k = kind;
            E.stays("figure 0, kind " + kind, () -> Edges.scale(Edges.bare(), k, 0), x -> x.toss(Edges.SCALE_AT), -15);
        }
    }

    private static void promise37TossedAgain() {
        FourStones x = Edges.full();
        for (int time = 0; time < 3; time++) {
            E.due("HALF", x.toss(Edges.HALF_AT), 103);
            E.due("GRAIN", x.toss(Edges.GRAIN_AT), 203);
            E.due("SCALE", x.toss(Edges.SCALE_AT), -15);
        }
    }

    private static void promise36And37RefusalsInTheirOrder() {
        for (int d : Edges.NO_SHELVES) {
            E.stays("cost(" + d + ")", Edges::full, x -> x.cost(d), -1);
            E.stays("toss(" + d + ")", Edges::full, x -> x.toss(d), -1);
        }
        E.stays("cost of nothing", Edges::full, x -> x.cost(Edges.NOTHING_AT), -11);
        E.stays("toss of nothing", Edges::full, x -> x.toss(Edges.NOTHING_AT), -11);
        for (int d : ROWS) {
            E.stays("cost of the row at " + d, Edges::full, x -> x.cost(d), -12);
            E.stays("toss of the row at " + d, Edges::full, x -> x.toss(d), -12);
        }
    }

    private static void promise36And37OnTheFirstAndTheLastShelf() {
        for (int d : new int[] {0, 7}) {
            FourStones x = new FourStones();
            x.keep(d, 1, 4, 2);
            E.due("cost(" + d + ")", x.cost(d), 19);
            E.due("toss(" + d + ")", x.toss(d), 2);
        }
    }
}
