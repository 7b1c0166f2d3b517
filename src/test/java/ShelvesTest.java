/** Promises 31 to 37 (shelves). */
public final class ShelvesTest {

    private static final Checks CHECKS = new Checks("shelves");

    public static void main(String[] args) {
        promise31Keep();
        promise32Row();
        promise33And34PutAndElement();
        promise35Copy();
        promise35CopyRefusals();
        promise36And37CostAndToss();
        CHECKS.end();
    }

    private static void due(String call, long got, long want) {
        CHECKS.due(call, got, want);
    }

    private static void promise31Keep() {
        FourStones x = new FourStones();
        due("keep a scale", x.keep(0, 1, 7, 9), 0);
        due("it is there", x.cost(0), 3);
        due("keep on the last shelf", x.keep(7, 1, 0, 0), 0);
        due("keep nothing, others do not matter", x.keep(0, 0, 99, -5), 0);
        due("nothing is there", x.cost(0), -11);
        x.row(0, 0, 2);
        due("a scale in place of a row", x.keep(0, 1, 0, 0), 0);
        due("no row any more", x.put(0, 0, 1), -12);
        x.row(0, 0, 2);
        due("nothing in place of a row", x.keep(0, 0, 0, 0), 0);
        due("nothing any more", x.put(0, 0, 1), -11);
        due("keep: shelf 8", x.keep(8, 1, 0, 0), -1);
        due("keep: shelf -1", x.keep(-1, 0, 0, 0), -1);
        due("keep: what 2", x.keep(7, 2, 0, 0), -1);
        due("keep: what -1", x.keep(7, -1, 0, 0), -1);
        due("keep: kind 8", x.keep(7, 1, 8, 0), -1);
        due("keep: kind -1", x.keep(7, 1, -1, 0), -1);
        due("keep: figure 10", x.keep(7, 1, 0, 10), -1);
        due("keep: figure -1", x.keep(7, 1, 0, -1), -1);
        due("refused ones change nothing", x.cost(7), 5);
    }

    private static void promise32Row() {
        FourStones x = new FourStones();
        for (int sort = 0; sort < 3; sort++) {
            due("row of 100", x.row(0, sort, 100), 0);
            due("0 at first", x.element(0, 99), 0);
            due("no 101st", Checks.thrown(x, 0, 100), 2);
            due("row of none", x.row(0, sort, 0), 0);
            due("no first", x.put(0, 0, 1), -13);
        }
        x.row(0, 2, 1);
        due("row of 101", x.row(0, 1, 101), -1);
        due("row: size -1", x.row(0, 1, -1), -14);
        due("row: sort 3", x.row(0, 3, 1), -1);
        due("row: sort -1", x.row(0, -1, 1), -1);
        due("row: shelf 8", x.row(8, 0, 1), -1);
        due("row: shelf -1", x.row(-1, 0, 1), -1);
        due("row: sort 3 ahead of size -1", x.row(0, 3, -1), -1);
        due("row: shelf 8 ahead of size -1", x.row(8, 0, -1), -1);
        due("row: the least size", x.row(0, 0, Integer.MIN_VALUE), -14);
        x.put(0, 0, 70000);
        due("refused ones change nothing", x.element(0, 0), 70000);
        x.keep(1, 1, 0, 0);
        due("a row in place of a scale", x.row(1, 0, 1), 0);
        due("no scale any more", x.cost(1), -12);
        x.put(1, 0, 5);
        x.row(1, 0, 1);
        due("a new row is 0 again", x.element(1, 0), 0);
    }

    private static void promise33And34PutAndElement() {
        FourStones x = new FourStones();
        int[] put = {1, -1, 127, 128, 255, 256, 32767, 32768, 65536, 70000, Integer.MIN_VALUE, Integer.MAX_VALUE};
        for (int v : put) {
            Checks.row(x, 0, Checks.BYTES, 0, v);
            Checks.row(x, 1, Checks.SHORTS, 0, v);
            Checks.row(x, 2, Checks.INTS, 0, v);
            due("byte of " + v, x.element(0, 1), (byte) v);
            due("short of " + v, x.element(1, 1), (short) v);
            due("int of " + v, x.element(2, 1), v);
            due("beside it", x.element(0, 0), 0);
        }
        due("put", x.put(0, 0, 3), 0);
        due("put: place 2", x.put(0, 2, 3), -13);
        due("put: place -1", x.put(0, -1, 3), -13);
        due("put: shelf 8", x.put(8, 0, 3), -1);
        due("put: shelf -1", x.put(-1, 0, 3), -1);
        due("put: nothing", x.put(5, 0, 3), -11);
        x.keep(5, 1, 0, 0);
        due("put: a scale", x.put(5, 0, 3), -12);
        due("element: there", Checks.thrown(x, 0, 0), 0);
        due("element: shelf 8", Checks.thrown(x, 8, 0), 1);
        due("element: shelf -1", Checks.thrown(x, -1, 0), 1);
        due("element: no row", Checks.thrown(x, 6, 0), 2);
        due("element: a scale", Checks.thrown(x, 5, 0), 2);
        due("element: place 2", Checks.thrown(x, 0, 2), 2);
        due("element: place -1", Checks.thrown(x, 0, -1), 2);
    }

    private static void dueCells(FourStones x, int d, int... want) {
        for (int i = 0; i < want.length; i++) {
            due("cell " + i + " of shelf " + d, x.element(d, i), want[i]);
        }
    }

    private static void promise35Copy() {
        FourStones x = new FourStones();
        for (int sort = 0; sort < 3; sort++) {
            Checks.row(x, 0, sort, 1, 2, 3, 4, 5);
            Checks.row(x, 1, sort, 9, 9, 9);
            due("copy between rows", x.copy(0, 1, 1, 0, 2), 2);
            dueCells(x, 1, 2, 3, 9);
            dueCells(x, 0, 1, 2, 3, 4, 5);
            due("copy upwards in one row", x.copy(0, 0, 0, 1, 4), 4);
            dueCells(x, 0, 1, 1, 2, 3, 4);
            due("copy downwards in one row", x.copy(0, 1, 0, 0, 4), 4);
            dueCells(x, 0, 1, 2, 3, 4, 4);
            due("copy none", x.copy(0, 5, 1, 3, 0), 0);
            due("copy all", x.copy(1, 0, 0, 2, 3), 3);
            dueCells(x, 0, 1, 2, 2, 3, 9);
        }
    }

    private static void promise35CopyRefusals() {
        FourStones x = new FourStones();
        Checks.row(x, 0, Checks.INTS, 1, 2, 3);
        Checks.row(x, 1, Checks.INTS, 4, 5);
        Checks.row(x, 2, Checks.SHORTS, 4, 5);
        x.keep(3, 1, 0, 0);
        due("copy: shelf d", x.copy(8, 0, 1, 0, 1), -1);
        due("copy: shelf e", x.copy(0, 0, -1, 0, 1), -1);
        due("copy: shelf e ahead of nothing", x.copy(5, 0, 8, 0, 1), -1);
        due("copy: nothing at d", x.copy(5, 0, 1, 0, 1), -11);
        due("copy: nothing at e", x.copy(0, 0, 5, 0, 1), -11);
        due("copy: nothing at e ahead of a scale at d", x.copy(3, 0, 5, 0, 1), -11);
        due("copy: a scale at d", x.copy(3, 0, 1, 0, 1), -12);
        due("copy: a scale at e", x.copy(0, 0, 3, 0, 1), -12);
        due("copy: another sort", x.copy(0, 0, 2, 0, 1), -12);
        due("copy: another sort ahead of n -1", x.copy(0, 0, 2, 0, -1), -12);
        int max = Integer.MAX_VALUE;
        int[][] wrong = {{0, 0, -1}, {-1, 0, 1}, {0, -1, 1}, {2, 0, 2}, {0, 1, 2}, {3, 0, 1}, {0, 2, 1},
            {4, 0, 0}, {0, 3, 0}, {1, 0, max}, {0, 1, max}, {max, 0, 1}, {0, max, 1}, {max, max, max}};
        for (int[] w : wrong) {
            due("copy from " + w[0] + " to " + w[1] + " of " + w[2], x.copy(0, w[0], 1, w[1], w[2]), -13);
        }
        dueCells(x, 1, 4, 5);
    }

    private static void promise36And37CostAndToss() {
        FourStones x = new FourStones();
        int[][] costs = {{5, 5, 5}, {4, 4, 4}, {5, 10, 50}, {5, 4, -4}, {9, 14, 54}, {10, 10, 10}, {4, 5, 13}, {12, 11, 3}};
        int[][] tossed = {{-15, 1, 9}, {-15, 1, 9}, {-15, 1, 9}, {-15, 1, 9}, {-15, 1, 9}, {-15, -15, -15}, {-15, 101, 109}, {-15, 211, 203}};
        int[] figures = {0, 1, 9};
        for (int kind = 0; kind < 8; kind++) {
            for (int i = 0; i < figures.length; i++) {
                x.keep(4, 1, kind, figures[i]);
                due("cost of kind " + kind + ", figure " + figures[i], x.cost(4), costs[kind][i]);
                due("toss of kind " + kind + ", figure " + figures[i], x.toss(4), tossed[kind][i]);
            }
        }
        due("what is tossed stays", x.cost(4), 3);
        x.row(5, 1, 1);
        int[] shelves = {-1, 8, 6, 5};
        int[] wants = {-1, -1, -11, -12};
        for (int i = 0; i < shelves.length; i++) {
            due("cost on shelf " + shelves[i], x.cost(shelves[i]), wants[i]);
            due("toss on shelf " + shelves[i], x.toss(shelves[i]), wants[i]);
        }
    }
}
