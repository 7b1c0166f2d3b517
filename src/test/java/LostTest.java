/** Promises 19 to 27 (lost, false, off). */
public final class LostTest {

    private static final Checks CHECKS = new Checks("lost");
    private static final int D = 3;
    private static final int E = 1;

    public static void main(String[] args) {
        promise19And20Lost();
        promise21Trials();
        promise22Found();
        promise23Twice();
        promise24Customers();
        promise25Unknown();
        promise25UnknownRefusals();
        promise26Seeded();
        promise27Judge();
        CHECKS.end();
    }

    private static void due(String call, long got, long want) {
        CHECKS.due(call, got, want);
    }

    private static void promise19And20Lost() {
        FourStones x = Checks.four();
        x.keep(D, 1, 0, 0);
        for (int stone = 0; stone < 4; stone++) {
            due("lost " + stone, x.lost(D, stone), 27);
        }
        due("of several the least stone", x.harmsLeast(D), 0);
        FourStones y = Checks.stones(1, 0, 3, 0, 3, 0);
        y.keep(D, 1, 0, 0);
        due("lost 1 of 7", y.lost(D, 0), 5);
        due("lost 3 of 7", y.lost(D, 1), 3);
        due("lost the other 3 of 7", y.lost(D, 2), 3);
        due("harms least", y.harmsLeast(D), 1);
        FourStones only = Checks.stones(1, 0, 5, 0, 6, 0);
        only.keep(D, 1, 0, 0);
        due("harms least by 1 .. REACH alone", only.harmsLeast(D), 0);
        y.keep(D, 1, 1, 0);
        due("on ONE: reach 1", y.reach(D), 1);
        due("on ONE: lost 1", y.lost(D, 0), 1);
        due("on ONE: lost 3", y.lost(D, 1), 0);
        due("on ONE: harms least", y.harmsLeast(D), 1);
        due("lost: no such stone", y.lost(D, 3), -1);
        due("lost: stone -1", y.lost(D, -1), -1);
        due("lost: no such stone on nothing", y.lost(5, 3), -1);
        due("lost: no such shelf", y.lost(8, 0), -1);
        due("lost: nothing", y.lost(5, 0), -11);
        y.row(5, 0, 0);
        due("lost: a row", y.lost(5, 0), -12);
        due("harmsLeast: a row", y.harmsLeast(5), -12);
        due("harmsLeast: nothing", y.harmsLeast(6), -11);
        due("harmsLeast: no such shelf", y.harmsLeast(-1), -1);
        FourStones none = new FourStones();
        none.keep(D, 1, 0, 0);
        due("harmsLeast without stones", none.harmsLeast(D), -4);
    }

    private static void promise21Trials() {
        FourStones x = Checks.stones(1, 1, 1, 1, 1, 1, 1, 1, 1, 1, 1, 1);
        due("2 stones", x.trials(3), 1);
        due("2 others", x.trials(48), 1);
        due("3 stones", x.trials(7), 1);
        due("4 stones", x.trials(15), 2);
        due("6 stones", x.trials(63), 2);
        due("none", x.trials(0), -1);
        due("1 stone", x.trials(32), -1);
        due("one that there is not", x.trials(65), -1);
        due("below 0", x.trials(-1), -1);
        Checks.read(x, "x;");
        due("one that is no more", x.trials(63), -1);
    }

    private static void promise22Found() {
        FourStones x = new FourStones();
        found(x, 15);
        found(x, 15, 0, 0);
        found(x, 0, 0, 1);
        found(x, 1, 1, 1);
        found(x, 2, 3, 1);
        found(x, 4, 9, 1);
        found(x, 8, 27, 1);
        found(x, 8, 54, 2);
        found(x, 7, 27, 0);
        found(x, 12, Checks.lying("rl.."), 0);
        found(x, 1, Checks.lying("rl.."), 1);
        found(x, 2, Checks.lying("rl.."), 2);
        found(x, 3, Checks.lying("rrll"), 1);
        found(x, 2, Checks.lying("rrll"), 1, Checks.lying("l.r."), 0);
        found(x, 0, 1, 1, 3, 1);
        found(x, 12, 80, 2, Checks.lying("rr.."), 0);
        found(x, -13, 1);
        found(x, -13, 81, 0);
        found(x, -13, 1, 1, 81, 0);
        found(x, -13, 1, 1, 3, 3);
        found(x, -13, -1, 0);
        found(x, -13, 1, 3);
        found(x, -13, 1, -1);
        found(x, -13, 1, 1, 1);
        due("found: no such shelf", x.found(8), -1);
        due("found: shelf -1", x.found(-1), -1);
        due("found: nothing", x.found(5), -11);
        x.keep(5, 1, 0, 0);
        due("found: a scale", x.found(5), -12);
        Checks.row(x, 5, Checks.SHORTS, 1, 1);
        due("found: shorts", x.found(5), -12);
        Checks.row(x, 5, Checks.INTS, 1, 1);
        due("found: ints", x.found(5), -12);
    }

    private static void found(FourStones x, int want, int... told) {
        Checks.row(x, E, Checks.BYTES, told);
        due("found by " + java.util.Arrays.toString(told), x.found(E), want);
    }

    private static void promise23Twice() {
        FourStones x = new FourStones();
        due("twice(10, 4, 0)", x.twice(10, 4, 0), 7);
        due("twice(10, 4, 1)", x.twice(10, 4, 1), 3);
        due("twice(4, 10, 1)", x.twice(4, 10, 1), -3);
        due("twice(0, 0, 0)", x.twice(0, 0, 0), 0);
        due("twice(999, 999, 0)", x.twice(999, 999, 0), 999);
        due("twice(1, 999, 1)", x.twice(1, 999, 1), -499);
        due("twice(1, 9, 1): no refusal", x.twice(1, 9, 1), -4);
        due("twice(1, 2, 0)", x.twice(1, 2, 0), -4);
        due("twice(1, 2, 1)", x.twice(1, 2, 1), -1000000004);
        int[][] wrong = {{1000, 0}, {0, 1000}, {-1, 1}, {1, -1}, {1001, 0}};
        for (int[] w : wrong) {
            due("twice(" + w[0] + ", " + w[1] + ", 0)", x.twice(w[0], w[1], 0), -1);
            due("twice(" + w[0] + ", " + w[1] + ", 1)", x.twice(w[0], w[1], 1), -1000000001);
        }
        due("what 2", x.twice(1, 1, 2), -1);
        due("what -1", x.twice(1, 1, -1), -1);
    }

    private static void promise24Customers() {
        FourStones x = Checks.stones(1, 0, 2, 0, 3, 0);
        due("3 and 3", x.customers(3, 3, 0), 2);
        due("first", x.customers(3, 3, 1), Checks.lying("rr."));
        due("second", x.customers(3, 3, 2), Checks.lying("..r"));
        due("1 and 1", x.customers(1, 1, 0), 2);
        due("1 and 1, first", x.customers(1, 1, 1), Checks.lying("r"));
        due("1 and 1, second", x.customers(1, 1, 2), Checks.lying(".lr"));
        due("1 and 3", x.customers(1, 3, 2), Checks.lying("..r"));
        due("6 and 1", x.customers(6, 1, 0), 0);
        due("6 and 1, first", x.customers(6, 1, 1), -4);
        due("6 and 1, second", x.customers(6, 1, 2), -4);
        due("999 and 999", x.customers(999, 999, 0), 0);
        due("0", x.customers(0, 1, 0), -1);
        due("1000", x.customers(1, 1000, 0), -1);
        due("other 0", x.customers(1, 0, 0), -1);
        due("one 1000", x.customers(1000, 1, 0), -1);
        due("customers: what 3", x.customers(1, 1, 3), -1);
        due("customers: what -1", x.customers(1, 1, -1), -1);
        FourStones six = Checks.stones(9, 0, 9, 0, 9, 0, 9, 0, 9, 0, 9, 0);
        due("six alike", six.customers(9, 9, 0), 690);
    }

    private static void promise25Unknown() {
        FourStones x = Checks.stones(5, 0, 3, 0);
        unknown(x, 0, 1, 42, Checks.lying("r."), 42);
        unknown(x, 0, 1, 42, Checks.lying("l."), -42);
        unknown(x, 0, 1, 42, Checks.lying("rr"), 45);
        unknown(x, 0, 1, 42, Checks.lying("lr"), -39);
        unknown(x, 0, 99, 1, Checks.lying(".r"), 3);
        unknown(x, 0, 0, -4, Checks.lying(".r"), 4);
        unknown(x, 0, 99, 1);
        unknown(x, 0, 1, 99, Checks.lying("r."), 99);
        unknown(x, 0, 0, -4, Checks.lying("r."), 100);
        unknown(x, 0, 0, -4, Checks.lying("r."), 0);
        unknown(x, 0, 1, 7, Checks.lying("r."), 7, Checks.lying("rl"), 4);
        unknown(x, 0, 0, -4, Checks.lying("r."), 7, Checks.lying("rl"), 5);
        unknown(x, 1, 1, 1, Checks.lying("rr"), 6);
        unknown(x, 1, 0, -4, 1, Integer.MIN_VALUE);
        due("the weight stays", x.stone(0, 0), 5);
    }

    private static void unknown(FourStones x, int stone, int count, int least, int... weighed) {
        Checks.row(x, E, Checks.INTS, weighed);
        String by = " of " + stone + " by " + java.util.Arrays.toString(weighed);
        due("how many" + by, x.unknown(stone, E, 0), count);
        due("the least" + by, x.unknown(stone, E, 1), least);
    }

    private static void promise25UnknownRefusals() {
        FourStones x = Checks.stones(5, 0, 3, 0);
        Checks.row(x, E, Checks.INTS, 1, 5);
        due("unknown: no such stone", x.unknown(2, E, 0), -1);
        due("unknown: stone -1", x.unknown(-1, E, 0), -1);
        due("unknown: what 2", x.unknown(0, E, 2), -1);
        due("unknown: what -1", x.unknown(0, E, -1), -1);
        due("unknown: shelf 8", x.unknown(0, 8, 0), -1);
        due("unknown: shelf -1", x.unknown(0, -1, 0), -1);
        due("unknown: no such stone ahead of nothing", x.unknown(2, 5, 0), -1);
        due("unknown: nothing", x.unknown(0, 5, 0), -11);
        x.keep(5, 1, 0, 0);
        due("unknown: a scale", x.unknown(0, 5, 0), -12);
        Checks.row(x, 5, Checks.SHORTS, 1, 5);
        due("unknown: shorts", x.unknown(0, 5, 0), -12);
        Checks.row(x, 5, Checks.BYTES, 1, 5);
        due("unknown: bytes", x.unknown(0, 5, 0), -12);
        int[][] wrong = {{1}, {1, 5, 1}, {9, 5}, {-1, 5}, {1, 6, 9, 5}};
        for (int[] weighed : wrong) {
            Checks.row(x, E, Checks.INTS, weighed);
            due("unknown by " + java.util.Arrays.toString(weighed), x.unknown(0, E, 0), -13);
            due("unknown by " + java.util.Arrays.toString(weighed) + ", least", x.unknown(0, E, 1), -13);
        }
    }

    private static void promise26Seeded() {
        FourStones x = Checks.four();
        for (int z = -40; z < 40; z++) {
            int seed = z * 7654321;
            x = Checks.four();
            for (int n = 1; n <= 6; n++) {
                FourStones drawn = new FourStones();
                int drawing = seed;
                for (int i = 0; i < n; i++) {
                    drawing = drawing * 1103515245 + 12345;
                    Checks.read(drawn, "s" + (1 + (drawing >>> 16 & 32767) % 40) + " 1;");
                }
                int kind = Math.floorMod(z, 8);
                x.keep(D, 1, kind, n);
                drawn.keep(D, 1, kind, n);
                due("seeded(" + n + ", " + seed + "), kind " + kind, x.seeded(D, n, seed), drawn.reach(D));
            }
        }
        due("in mind only", x.count(1), 40);
        x.keep(D, 1, 0, 0);
        due("the shop's lyings stay", x.reach(D), 40);
        due("seeded: n 0", x.seeded(D, 0, 1), -1);
        due("seeded: n 7", x.seeded(D, 7, 1), -1);
        due("seeded: shelf 8", x.seeded(8, 1, 1), -1);
        due("seeded: n 7 ahead of nothing", x.seeded(5, 7, 1), -1);
        due("seeded: nothing", x.seeded(5, 1, 1), -11);
        x.row(5, 0, 1);
        due("seeded: a row", x.seeded(5, 1, 1), -12);
    }

    private static void promise27Judge() {
        FourStones x = Checks.four();
        x.keep(D, 1, 1, 0);
        for (int sort = 0; sort < 3; sort++) {
            Checks.row(x, E, sort);
            due("nothing told", x.judge(D, E), -4);
            Checks.row(x, E, sort, 1, 1, 4, 4, 0, 0);
            due("all so", x.judge(D, E), -4);
            Checks.row(x, E, sort, 1, 1, 4, 5, 0, 1);
            due("another weight", x.judge(D, E), 2);
            Checks.row(x, E, sort, 1, 1, 4, 4, 2, -1);
            due("one that may not be", x.judge(D, E), 4);
            Checks.row(x, E, sort, 81, 1);
            due("no lying", x.judge(D, E), 0);
            Checks.row(x, E, sort, -1, 1);
            due("no lying below 0", x.judge(D, E), 0);
            Checks.row(x, E, sort, 1, 1, 81);
            due("an odd size", x.judge(D, E), 3);
            Checks.row(x, E, sort, 1, 1, 4, 5, 1);
            due("an odd size behind another weight", x.judge(D, E), 2);
            Checks.row(x, E, sort, 1);
            due("size 1", x.judge(D, E), 1);
        }
        x.keep(D, 1, 6, 0);
        Checks.row(x, E, Checks.BYTES, 4, 2);
        due("by HALF", x.judge(D, E), -4);
        due("judge: shelf d", x.judge(8, E), -1);
        due("judge: shelf e", x.judge(D, 8), -1);
        due("judge: shelf e ahead of nothing at d", x.judge(5, -1), -1);
        due("judge: nothing at d", x.judge(5, E), -11);
        due("judge: a row at d", x.judge(E, E), -12);
        due("judge: a row at d ahead of nothing at e", x.judge(E, 5), -12);
        due("judge: nothing at e", x.judge(D, 5), -11);
        due("judge: a scale at e", x.judge(D, D), -12);
    }
}
