import java.math.BigInteger;
import java.util.Arrays;

/** Each boundary that the document names for promises 19 to 27 (lost, false, off). */
public final class LostEdgesTest {

    private static final Edges E = new Edges(LostEdgesTest.class);
    private static final int D = Edges.SCALE_AT;
    private static final int[] ROWS = {Edges.BYTES_AT, Edges.SHORTS_AT, Edges.INTS_AT, Edges.EMPTY_AT};
    private static final int[] SCALES = {Edges.SCALE_AT, Edges.HALF_AT, Edges.GRAIN_AT};
    private static final int[] BY_THREES = {1, 0, 3, 0, 9, 0, 27, 0, 81, 0, 99, 0};

    public static void main(String[] args) {
        E.runAll();
    }

    // ---- what can be had, told once more by trying every lying

    private static boolean[] had(int[] weights, int kind, int figure, int without) {
        boolean[] had = new boolean[1001];
        int lyings = 1;
        for (int i = 0; i < weights.length; i++) {
            lyings *= 3;
        }
        for (int lying = 0; lying < lyings; lying++) {
            int[] pans = new int[3];
            int[] stones = new int[3];
            int rest = lying;
            boolean touches = false;
            for (int stone = 0; stone < weights.length; stone++) {
                pans[rest % 3] += weights[stone];
                stones[rest % 3]++;
                touches |= stone == without && rest % 3 != 0;
                rest /= 3;
            }
            boolean may = kind == 1 || kind == 6 ? stones[2] == 0 : kind != 4 || stones[1] <= 2;
            int weight = told(kind, figure, pans[1], pans[2]);
            if (may && !touches && weight >= 1 && weight <= 999) {
                had[weight] = true;
            }
        }
        return had;
    }

    private static int told(int kind, int figure, int right, int left) {
        int[] told = {
            right - left, right - left, (figure + 1) * right - left, right - left - figure,
            (figure + 1) * right - left + right, Math.abs(right - left), (right - left) / 2,
            right - left - figure + (left > 0 ? 1 : 0),
        };
        return told[kind];
    }

    private static int reach(boolean[] had) {
        int n = 0;
        while (had[n + 1]) {
            n++;
        }
        return n;
    }

    private static int lost(int[] weights, int kind, int figure, int stone) {
        int reach = reach(had(weights, kind, figure, -1));
        boolean[] left = had(weights, kind, figure, stone);
        int lost = 0;
        for (int n = 1; n <= reach; n++) {
            lost += left[n] ? 0 : 1;
        }
        return lost;
    }

    private static int[] priced(int... weights) {
        int[] stones = new int[2 * weights.length];
        for (int i = 0; i < weights.length; i++) {
            stones[2 * i] = weights[i];
        }
        return stones;
    }

    // ---- promises 19 and 20

    private static void promise19And20ByEveryKind() {
        int[][] shops = {{1}, {1, 3, 9, 27}, {1, 1, 2, 5, 10, 20}, {4, 2, 1}, {6, 5, 1, 1}, {1, 2, 4, 8, 16, 32}, {2, 2, 2}};
        int[] figures = {0, 1, 9};
        for (int[] weights : shops) {
            for (int kind = 0; kind < 8; kind++) {
                for (int figure : figures) {
                    dueLost(weights, kind, figure);
                }
            }
        }
    }

    private static void dueLost(int[] weights, int kind, int figure) {
        FourStones x = Edges.scale(Edges.shop(priced(weights)), kind, figure);
        String by = " of " + Arrays.toString(weights) + " on kind " + kind + ", figure " + figure;
        int best = 0;
        for (int stone = 0; stone < weights.length; stone++) {
            int lost = lost(weights, kind, figure, stone);
            E.due("lost " + stone + by, x.lost(D, stone), lost);
            best = lost < lost(weights, kind, figure, best) ? stone : best;
        }
        E.due("harmsLeast" + by, x.harmsLeast(D), best);
        E.due("reach" + by, x.reach(D), reach(had(weights, kind, figure, -1)));
        E.due("hole" + by, x.hole(D), 1 + reach(had(weights, kind, figure, -1)));
    }

    private static void promise19FromTheFirstToTheLastStone() {
        for (int count = 0; count <= 6; count++) {
            int[] stones = Arrays.copyOf(BY_THREES, 2 * count);
            if (count > 0) {
                int[] weights = {1, 3, 9, 27, 81, 99};
                int last = count - 1;
                E.stays("lost the last of " + count, () -> Edges.shop(stones), x -> x.lost(D, last),
                        lost(Arrays.copyOf(weights, count), 0, 0, last));
            }
            for (int stone : new int[] {count, -1, 6, Edges.MIN, Edges.MAX}) {
                for (int d = 0; d < 8; d++) {
                    E.due("lost(" + d + ", " + stone + ") of " + count, Edges.shop(stones).lost(d, stone), -1);
                }
                E.stays("lost(3, " + stone + ") of " + count, () -> Edges.shop(stones), x -> x.lost(D, stone), -1);
            }
        }
    }

    private static void promise19NothingAndAll() {
        E.stays("REACH 0", () -> Edges.shop(2, 0, 5, 0), x -> x.lost(D, 0), 0);
        E.stays("all of 1 .. REACH", () -> Edges.shop(1, 0), x -> x.lost(D, 0), 1);
        E.stays("none of them", () -> Edges.shop(1, 0, 50, 0), x -> x.lost(D, 1), 0);
        E.stays("beyond REACH does not count", () -> Edges.shop(1, 0, 5, 0, 20, 0), x -> x.lost(D, 2), 0);
    }

    private static void promise19ShelvesInTheirOrder() {
        for (int d : Edges.NO_SHELVES) {
            E.stays("lost(" + d + ", 0)", Edges::full, x -> x.lost(d, 0), -1);
            E.stays("lost(" + d + ", 6)", Edges::full, x -> x.lost(d, 6), -1);
        }
        E.stays("nothing", Edges::full, x -> x.lost(Edges.NOTHING_AT, 5), -11);
        for (int d : ROWS) {
            E.stays("the row at " + d, Edges::full, x -> x.lost(d, 5), -12);
        }
    }

    private static void promise20OfSeveralTheLeast() {
        E.stays("all alike", () -> Edges.shop(1, 0, 1, 0, 1, 0), x -> x.harmsLeast(D), 0);
        E.stays("the second and the third", () -> Edges.shop(1, 0, 3, 0, 3, 0), x -> x.harmsLeast(D), 1);
        E.stays("the sixth alone", () -> Edges.shop(1, 0, 2, 0, 4, 0, 8, 0, 16, 0, 99, 0), x -> x.harmsLeast(D), 5);
        E.stays("one stone", () -> Edges.shop(7, 0), x -> x.harmsLeast(D), 0);
    }

    private static void promise20NoStone() {
        for (int d : SCALES) {
            E.stays("harmsLeast(" + d + ")", Edges::bare, x -> x.harmsLeast(d), -4);
        }
    }

    private static void promise20ShelvesInTheirOrder() {
        for (int d : Edges.NO_SHELVES) {
            E.stays("harmsLeast(" + d + ")", Edges::full, x -> x.harmsLeast(d), -1);
            E.stays("no stones: harmsLeast(" + d + ")", Edges::bare, x -> x.harmsLeast(d), -1);
        }
        E.stays("nothing", Edges::full, x -> x.harmsLeast(Edges.NOTHING_AT), -11);
        E.stays("no stones: nothing", Edges::bare, x -> x.harmsLeast(Edges.NOTHING_AT), -11);
        for (int d : ROWS) {
            E.stays("the row at " + d, Edges::full, x -> x.harmsLeast(d), -12);
            E.stays("no stones: the row at " + d, Edges::bare, x -> x.harmsLeast(d), -12);
        }
    }

    private static void promise19And20OnTheFirstAndTheLastShelf() {
        for (int d : new int[] {0, 7}) {
            FourStones x = Checks.stones(1, 0, 3, 0, 3, 0);
            x.keep(d, 1, 0, 0);
            E.due("lost(" + d + ", 0)", x.lost(d, 0), 5);
            E.due("harmsLeast(" + d + ")", x.harmsLeast(d), 1);
            E.due("seeded(" + d + ", 1, 0)", x.seeded(d, 1, 0), 1);
            Checks.row(x, d, Checks.BYTES, 1, 1);
            E.due("found(" + d + ")", x.found(d), 1);
            Checks.row(x, d, Checks.INTS, 1, 42);
            E.due("unknown(0, " + d + ", 1)", x.unknown(0, d, 1), 42);
            x.keep(7 - d, 1, 0, 0);
            E.due("judge(" + (7 - d) + ", " + d + ")", x.judge(7 - d, d), 0);
        }
    }

    // ---- promise 21

    private static void promise21EverySetOfStones() {
        for (int count = 0; count <= 6; count++) {
            int[] stones = Arrays.copyOf(BY_THREES, 2 * count);
            FourStones x = Edges.shop(stones);
            for (int bits = -2; bits <= 130; bits++) {
                int told = Integer.bitCount(bits);
                boolean there = bits >= 0 && bits < 1 << count && told >= 2;
                E.due("trials(" + bits + ") of " + count, x.trials(bits), !there ? -1 : told <= 3 ? 1 : 2);
            }
        }
    }

    private static void promise21FewerThan2AndThoseThatThereAreNot() {
        for (int bits : new int[] {0, 1, 2, 4, 8, 16, 32, 64, 65, 127, -1, Edges.MIN, Edges.MAX, Edges.MIN + 3}) {
            E.stays("trials(" + bits + ")", Edges::full, x -> x.trials(bits), -1);
        }
        E.stays("trials(3)", Edges::full, x -> x.trials(3), 1);
        E.stays("trials(63)", Edges::full, x -> x.trials(63), 2);
        E.stays("no stones: trials(3)", Edges::bare, x -> x.trials(3), -1);
    }

    // ---- promise 22

    private static void found(int want, int... cells) {
        E.stays("found by " + Arrays.toString(cells), () -> Edges.row(Edges.bare(), 0, Checks.BYTES, cells), x -> x.found(0), want);
    }

    private static void promise22EveryLyingAndEveryOutcome() {
        for (int lying = 0; lying <= 80; lying++) {
            for (int told = 0; told <= 2; told++) {
                int bits = 0;
                int rest = lying;
                for (int stone = 0; stone < 4; stone++) {
                    bits |= rest % 3 == told ? 1 << stone : 0;
                    rest /= 3;
                }
                FourStones x = Edges.row(new FourStones(), 0, Checks.BYTES, lying, told);
                E.due("found by " + lying + ", " + told, x.found(0), bits);
                x = Edges.row(new FourStones(), 0, Checks.BYTES, 27, 0, lying, told);
                E.due("found by 27, 0 and " + lying + ", " + told, x.found(0), bits & 7);
            }
        }
    }

    private static void promise22LyingsFrom0To80() {
        found(15, 0, 0);
        found(15, 80, 2);
        found(-13, 81, 0);
        found(-13, -1, 0);
        found(-13, 127, 0);
        found(-13, -128, 0);
        found(-13, 0, 0, 81, 0);
        found(-13, 0, 0, -1, 0);
    }

    private static void promise22OutcomesFrom0To2() {
        found(0, 0, 1);
        found(0, 0, 2);
        found(-13, 0, 3);
        found(-13, 0, -1);
        found(-13, 0, 127);
        found(-13, 0, 1, 0, 3);
        found(-13, 0, 1, 0, -1);
    }

    private static void promise22SizesFrom0To100ByTwos() {
        found(15);
        found(-13, 0);
        found(-13, 0, 0, 0);
        for (int size = 0; size <= 100; size++) {
            found(size % 2 == 0 ? 15 : -13, new int[size]);
        }
        int[] hundred = new int[100];
        hundred[98] = 1;
        hundred[99] = 1;
        found(1, hundred);
        hundred[99] = 3;
        found(-13, hundred);
        hundred[99] = 0;
        hundred[98] = 81;
        found(-13, hundred);
    }

    private static void promise22WhatIsPutKeepsItsLowestBits() {
        found(1, 256 + 1, 1 - 256);
        found(-13, 128, 0);
        found(-13, 0, 255);
        found(15, Edges.MIN, 512);
        found(-13, Edges.MAX, 0);
    }

    private static void promise22BeStonesThereOrNot() {
        for (int count = 0; count <= 6; count++) {
            int[] stones = Arrays.copyOf(BY_THREES, 2 * count);
            E.stays("the fourth, " + count + " stones", () -> Edges.row(Edges.shop(stones), 0, Checks.BYTES, 54, 2), x -> x.found(0), 8);
        }
    }

    private static void promise22RefusalsInTheirOrder() {
        for (int d : Edges.NO_SHELVES) {
            E.stays("found(" + d + ")", Edges::full, x -> x.found(d), -1);
        }
        E.stays("nothing", Edges::full, x -> x.found(Edges.NOTHING_AT), -11);
        for (int d : SCALES) {
            E.stays("scale " + d, Edges::full, x -> x.found(d), -12);
        }
        E.stays("shorts", () -> Edges.row(Edges.full(), 1, Checks.SHORTS, 1, 1), x -> x.found(1), -12);
        E.stays("ints", () -> Edges.row(Edges.full(), 2, Checks.INTS, 1, 1), x -> x.found(2), -12);
        E.stays("shorts ahead of an odd size", Edges::full, x -> x.found(1), -12);
        E.stays("ints ahead of an odd size", Edges::full, x -> x.found(2), -12);
        E.stays("ints ahead of what isn't as told", () -> Edges.row(Edges.full(), 2, Checks.INTS, 81, 3), x -> x.found(2), -12);
        E.stays("bytes, an odd size", Edges::full, x -> x.found(0), -13);
    }

    // ---- promise 23

    private static void promise23EveryAByTheEdgesOfB() {
        for (int a = 0; a <= 999; a++) {
            for (int b : new int[] {0, 1, 2, 499, 500, 998, 999}) {
                boolean whole = (a - b) % 2 == 0;
                String call = "twice(" + a + ", " + b + ", ";
                E.due(call + "0)", Checks.fresh().twice(a, b, 0), whole ? (a + b) / 2 : -4);
                E.due(call + "1)", Checks.fresh().twice(a, b, 1), whole ? (a - b) / 2 : -1000000004);
            }
        }
    }

    private static void promise23From0To999() {
        E.stays("0 and 0", Edges::full, x -> x.twice(0, 0, 0), 0);
        E.stays("0 and 0, off", Edges::full, x -> x.twice(0, 0, 1), 0);
        E.stays("999 and 999", Edges::full, x -> x.twice(999, 999, 0), 999);
        E.stays("999 and 1, off", Edges::full, x -> x.twice(999, 1, 1), 499);
        E.stays("1 and 999, off", Edges::full, x -> x.twice(1, 999, 1), -499);
        E.stays("0 and 999", Edges::full, x -> x.twice(0, 999, 0), -4);
        for (int no : new int[] {-1, -2, 1000, 1001, Edges.MIN, Edges.MAX}) {
            for (int other : new int[] {0, 1, 999, no}) {
                E.stays("twice(" + no + ", " + other + ", 0)", Edges::full, x -> x.twice(no, other, 0), -1);
                E.stays("twice(" + other + ", " + no + ", 0)", Edges::full, x -> x.twice(other, no, 0), -1);
                E.stays("twice(" + no + ", " + other + ", 1)", Edges::full, x -> x.twice(no, other, 1), -1000000001);
                E.stays("twice(" + other + ", " + no + ", 1)", Edges::full, x -> x.twice(other, no, 1), -1000000001);
            }
        }
    }

    private static void promise23What0And1Alone() {
        for (int what : new int[] {-1, 2, Edges.MIN, Edges.MAX}) {
            E.stays("what " + what, Edges::full, x -> x.twice(1, 1, what), -1);
            E.stays("no whole number, what " + what, Edges::full, x -> x.twice(1, 2, what), -1);
            E.stays("1000, what " + what, Edges::full, x -> x.twice(1000, 0, what), -1);
        }
    }

    private static void promise23AnswersBelow0AreNoRefusals() {
        E.stays("-1", Edges::full, x -> x.twice(0, 2, 1), -1);
        E.stays("-4", Edges::full, x -> x.twice(0, 8, 1), -4);
    }

    // ---- promise 24

    private static void promise24EveryPairOfWeights() {
        int[][] shops = {{}, {1}, {2, 2}, {1, 2, 3}, {1, 1, 2, 4}, {5, 3, 2, 1}};
        for (int[] weights : shops) {
            int most = 1;
            for (int weight : weights) {
                most += weight;
            }
            for (int one = 1; one <= most; one++) {
                FourStones x = Checks.stones(priced(weights));
                for (int other = 1; other <= most; other++) {
                    dueCustomers(x, weights, one, other);
                }
            }
        }
    }

    private static void dueCustomers(FourStones x, int[] weights, int one, int other) {
        int lyings = (int) Math.pow(3, weights.length);
        int pairs = 0;
        int first = -4;
        int second = -4;
        for (int a = 0; a < lyings; a++) {
            for (int b = 0; b < lyings; b++) {
                if (weight(weights, a) == one && weight(weights, b) == other && apart(a, b)) {
                    first = pairs == 0 ? a : first;
                    second = pairs == 0 ? b : second;
                    pairs++;
                }
            }
        }
        String call = "customers(" + one + ", " + other + ") of " + Arrays.toString(weights);
        E.due(call + ": pairs", x.customers(one, other, 0), pairs);
        E.due(call + ": first", x.customers(one, other, 1), first);
        E.due(call + ": second", x.customers(one, other, 2), second);
    }

    private static int weight(int[] weights, int lying) {
        int weight = 0;
        int rest = lying;
        for (int stone : weights) {
            weight += rest % 3 == 1 ? stone : rest % 3 == 2 ? -stone : 0;
            rest /= 3;
        }
        return weight;
    }

    private static boolean apart(int a, int b) {
        for (int restA = a, restB = b; restA > 0; restA /= 3, restB /= 3) {
            if (restA % 3 != 0 && restB % 3 != 0) {
                return false;
            }
        }
        return true;
    }

    private static void promise24WeightsFrom1To999() {
        for (int what = 0; what < 3; what++) {
            int asked = what;
            int none = what == 0 ? 0 : -4;
            for (int weight : new int[] {1, 999}) {
                E.stays("no stones, " + weight, Edges::bare, x -> x.customers(weight, 1000 - weight, asked), none);
                E.stays("999 and " + weight, Edges::full, x -> x.customers(999, weight, asked), none);
            }
            for (int no : new int[] {0, -1, 1000, Edges.MIN, Edges.MAX}) {
                for (int other : new int[] {1, 999, no}) {
                    E.stays("customers(" + no + ", " + other + ", " + what + ")", Edges::full, x -> x.customers(no, other, asked), -1);
                    E.stays("customers(" + other + ", " + no + ", " + what + ")", Edges::full, x -> x.customers(other, no, asked), -1);
                    E.stays("no stones, " + no + ", " + other, Edges::bare, x -> x.customers(no, other, asked), -1);
                }
            }
        }
    }

    private static void promise24What0To2Alone() {
        for (int what : new int[] {-1, 3, Edges.MIN, Edges.MAX}) {
            E.stays("what " + what, Edges::full, x -> x.customers(1, 3, what), -1);
            E.stays("none, what " + what, Edges::full, x -> x.customers(999, 999, what), -1);
            E.stays("no stones, what " + what, Edges::bare, x -> x.customers(1, 1, what), -1);
        }
    }

    private static void promise24AllPlacesTaken() {
        int[] alike = {9, 0, 9, 0, 9, 0, 9, 0, 9, 0, 9, 0};
        E.stays("six alike", () -> Edges.shop(alike), x -> x.customers(9, 9, 0), 690);
        E.stays("three and three", () -> Edges.shop(alike), x -> x.customers(27, 27, 0), 20);
        E.stays("three and three, first", () -> Edges.shop(alike), x -> x.customers(27, 27, 1), 13);
        E.stays("three and three, second", () -> Edges.shop(alike), x -> x.customers(27, 27, 2), 351);
        E.stays("five and one", () -> Edges.shop(alike), x -> x.customers(45, 9, 0), 6);
        E.stays("six and one", () -> Edges.shop(alike), x -> x.customers(54, 9, 0), 0);
        E.stays("the last lying", () -> Edges.shop(1, 0, 1, 0, 1, 0, 1, 0, 1, 0, 99, 0), x -> x.customers(5, 99, 2), 243);
    }

    // ---- promise 25

    private static void unknown(int[] stones, int stone, int count, int least, int... cells) {
        String by = "unknown " + stone + " by " + Arrays.toString(cells);
        E.stays(by, () -> Edges.row(Edges.shop(stones), 2, Checks.INTS, cells), x -> x.unknown(stone, 2, 0), count);
        E.stays(by + ", the least", () -> Edges.row(Edges.shop(stones), 2, Checks.INTS, cells), x -> x.unknown(stone, 2, 1), least);
    }

    private static void promise25WeightsFrom1To99() {
        int[] stones = {50, 0, 99, 0};
        unknown(stones, 0, 1, 1, 1, 1);
        unknown(stones, 0, 1, 99, 1, 99);
        unknown(stones, 0, 0, -4, 1, 0);
        unknown(stones, 0, 0, -4, 1, 100);
        unknown(stones, 0, 1, 1, 2, -1);
        unknown(stones, 0, 1, 99, 2, -99);
        unknown(stones, 0, 0, -4, 2, 0);
        unknown(stones, 0, 0, -4, 2, -100);
        unknown(stones, 0, 1, 99, 4, 198);
        unknown(stones, 0, 0, -4, 4, 199);
        unknown(stones, 1, 1, 1, 8, -51);
        unknown(stones, 1, 0, -4, 8, -50);
    }

    private static void promise25EachStoneInEachPan() {
        int alone = 1;
        for (int stone = 0; stone < 6; stone++) {
            unknown(BY_THREES, stone, 1, 42, alone, 42);
            unknown(BY_THREES, stone, 1, 42, 2 * alone, -42);
            unknown(BY_THREES, stone, 0, -4, alone, -42);
            unknown(BY_THREES, stone, 0, -4, 2 * alone, 42);
            unknown(BY_THREES, (stone + 1) % 6, 0, -4, alone, 42);
            alone *= 3;
        }
    }

    private static void promise25WeighingsWithoutTheStone() {
        int[] stones = {50, 0, 99, 0};
        unknown(stones, 0, 99, 1, 0, 0);
        unknown(stones, 0, 0, -4, 0, 1);
        unknown(stones, 0, 99, 1, 3, 99);
        unknown(stones, 0, 0, -4, 3, 98);
        unknown(stones, 0, 1, 7, 3, 99, 1, 7, 6, -99);
        unknown(stones, 0, 0, -4, 1, 7, 3, 98);
    }

    private static void promise25WhereAnIntWrapsAround() {
        int[] stones = {50, 0, 99, 0};
        for (int told : new int[] {Edges.MIN, Edges.MIN + 1, Edges.MAX - 1, Edges.MAX}) {
            for (int lying = 0; lying < 9; lying++) {
                unknown(stones, 0, 0, -4, lying, told);
            }
        }
    }

    private static void promise25LyingsFromTheFirstToTheLast() {
        int lyings = 3;
        for (int count = 1; count <= 6; count++) {
            int[] stones = Arrays.copyOf(BY_THREES, 2 * count);
            int all = new int[] {1, 4, 13, 40, 121, 220}[count - 1];
            unknown(stones, 0, 1, 1, lyings - 1, -all);
            unknown(stones, 0, -13, -13, lyings, 0);
            unknown(stones, 0, -13, -13, -1, 0);
            unknown(stones, count - 1, 99, 1, 0, 0);
            lyings *= 3;
        }
        unknown(BY_THREES, 0, -13, -13, Edges.MIN, 0);
        unknown(BY_THREES, 0, -13, -13, Edges.MAX, 0);
        unknown(BY_THREES, 0, -13, -13, 1, 1000, 729, 0);
    }

    private static void promise25SizesFrom0To100ByTwos() {
        for (int size = 0; size <= 100; size++) {
            unknown(BY_THREES, 5, size % 2 == 0 ? 99 : -13, size % 2 == 0 ? 1 : -13, new int[size]);
        }
        int[] hundred = new int[100];
        hundred[98] = 1;
        hundred[99] = 42;
        unknown(BY_THREES, 0, 1, 42, hundred);
        hundred[99] = 100;
        unknown(BY_THREES, 0, 0, -4, hundred);
        hundred[98] = 729;
        unknown(BY_THREES, 0, -13, -13, hundred);
        int[] odd = new int[99];
        odd[1] = 1;
        unknown(BY_THREES, 0, -13, -13, odd);
    }

    private static void promise25FromTheFirstToTheLastStone() {
        for (int count = 0; count <= 6; count++) {
            int[] stones = Arrays.copyOf(BY_THREES, 2 * count);
            for (int stone : new int[] {count, -1, 6, Edges.MIN, Edges.MAX}) {
                for (int d = 0; d < 8; d++) {
                    E.due("unknown(" + stone + ", " + d + ", 0) of " + count, Edges.shop(stones).unknown(stone, d, 0), -1);
                }
                E.stays("unknown " + stone + " of " + count, () -> Edges.shop(stones), x -> x.unknown(stone, 2, 1), -1);
            }
        }
    }

    private static void promise25RefusalsInTheirOrder() {
        for (int what = 0; what < 2; what++) {
            int asked = what;
            for (int d : Edges.NO_SHELVES) {
                E.stays("unknown(0, " + d + ", " + what + ")", Edges::full, x -> x.unknown(0, d, asked), -1);
            }
            E.stays("nothing", Edges::full, x -> x.unknown(5, Edges.NOTHING_AT, asked), -11);
            for (int d : SCALES) {
                E.stays("scale " + d, Edges::full, x -> x.unknown(5, d, asked), -12);
            }
            for (int d : new int[] {Edges.BYTES_AT, Edges.SHORTS_AT, Edges.EMPTY_AT}) {
                E.stays("the row at " + d, Edges::full, x -> x.unknown(5, d, asked), -12);
            }
            E.stays("ints, an odd size", Edges::full, x -> x.unknown(5, Edges.INTS_AT, asked), -13);
        }
        for (int what : new int[] {-1, 2, Edges.MIN, Edges.MAX}) {
            for (int d = 0; d < 8; d++) {
                int shelf = d;
                E.stays("unknown(0, " + d + ", " + what + ")", Edges::full, x -> x.unknown(0, shelf, what), -1);
            }
        }
    }

    // ---- promise 26

    private static int[] drawn(int n, int z) {
        int[] weights = new int[n];
        BigInteger seed = BigInteger.valueOf(z);
        for (int i = 0; i < n; i++) {
            seed = seed.multiply(BigInteger.valueOf(1103515245)).add(BigInteger.valueOf(12345));
            int draw = seed.mod(BigInteger.ONE.shiftLeft(31)).divide(BigInteger.valueOf(65536)).intValue();
            weights[i] = 1 + draw % 40;
        }
        return weights;
    }

    private static void promise26SeedsWhereAnIntWrapsAround() {
        int[] seeds = {0, 1, -1, Edges.MIN, Edges.MIN + 1, Edges.MAX, Edges.MAX - 1, 65535, 65536, -65536, 0x40000000};
        for (int z : seeds) {
            for (int n = 1; n <= 6; n++) {
                for (int kind = 0; kind < 8; kind++) {
                    int reach = reach(had(drawn(n, z), kind, 2, -1));
                    FourStones x = new FourStones();
                    x.keep(D, 1, kind, 2);
                    E.due("seeded(3, " + n + ", " + z + "), kind " + kind, x.seeded(D, n, z), reach);
                }
            }
        }
    }

    private static void promise26SeedsThatHaveMuch() {
        FourStones x = new FourStones();
        x.keep(D, 1, 0, 0);
        for (int z = 0; z < 500; z++) {
            E.due("seeded(3, 6, " + z * 977 + ")", x.seeded(D, 6, z * 977), reach(had(drawn(6, z * 977), 0, 0, -1)));
        }
    }

    private static void promise26NFrom1To6() {
        E.stays("n 1", Edges::full, x -> x.seeded(D, 1, 0), reach(had(drawn(1, 0), 0, 0, -1)));
        E.stays("n 6", Edges::full, x -> x.seeded(D, 6, 0), reach(had(drawn(6, 0), 0, 0, -1)));
        E.stays("no stones: n 6", Edges::bare, x -> x.seeded(D, 6, 0), reach(had(drawn(6, 0), 0, 0, -1)));
        for (int n : new int[] {0, 7, -1, Edges.MIN, Edges.MAX}) {
            for (int d = 0; d < 8; d++) {
                int shelf = d;
                E.stays("seeded(" + d + ", " + n + ", 1)", Edges::full, x -> x.seeded(shelf, n, 1), -1);
            }
        }
    }

    private static void promise26FromTheSeedAlone() {
        FourStones x = Edges.full();
        int one = x.seeded(D, 3, 7);
        x.seeded(D, 6, 99);
        E.due("the same again", x.seeded(D, 3, 7), one);
        E.due("by another shop", Edges.scale(Edges.bare(), 0, 0).seeded(D, 3, 7), one);
        E.due("the shop's own reach", x.reach(D), 220);
    }

    private static void promise26ShelvesInTheirOrder() {
        for (int d : Edges.NO_SHELVES) {
            E.stays("seeded(" + d + ", 1, 1)", Edges::full, x -> x.seeded(d, 1, 1), -1);
        }
        E.stays("nothing", Edges::full, x -> x.seeded(Edges.NOTHING_AT, 6, 1), -11);
        for (int d : ROWS) {
            E.stays("the row at " + d, Edges::full, x -> x.seeded(d, 6, 1), -12);
        }
    }

    // ---- promise 27

    private static void judge(int sort, int want, int... cells) {
        E.stays("judge " + Arrays.toString(cells) + " of sort " + sort,
                () -> Edges.row(Edges.shop(BY_THREES), 2, sort, cells), x -> x.judge(D, 2), want);
    }

    private static void promise27SizesFrom0To100() {
        for (int sort = 0; sort < 3; sort++) {
            for (int size : new int[] {0, 1, 2, 3, 98, 99, 100}) {
                judge(sort, size % 2 == 0 ? -4 : size, new int[size]);
            }
            int[] hundred = new int[100];
            hundred[99] = 1;
            judge(sort, 98, hundred);
            int[] odd = new int[99];
            odd[97] = 1;
            judge(sort, 96, odd);
            odd[97] = 0;
            odd[98] = -1;
            judge(sort, 99, odd);
        }
    }

    private static void promise27TheFirstThatIsNotSo() {
        judge(Checks.SHORTS, 0, 1, 2, 3, 4, 9, 9);
        judge(Checks.SHORTS, 2, 1, 1, 3, 4, 9, 8);
        judge(Checks.SHORTS, 4, 1, 1, 3, 3, 9, 8, 5);
        judge(Checks.SHORTS, 7, 1, 1, 3, 3, 9, 9, 5);
        judge(Checks.SHORTS, -4, 1, 1, 3, 3, 9, 9);
    }

    private static void promise27LyingsFromTheFirstToTheLast() {
        judge(Checks.INTS, -4, 0, 0, 728, -220);
        judge(Checks.INTS, 2, 0, 0, 729, 0);
        judge(Checks.INTS, 2, 0, 0, -1, 0);
        judge(Checks.INTS, 0, Edges.MIN, 0);
        judge(Checks.INTS, 0, Edges.MAX, 0);
        judge(Checks.SHORTS, -4, 728, -220);
        judge(Checks.SHORTS, 0, 32768, 0);
        judge(Checks.SHORTS, -4, 65536, 0);
        judge(Checks.BYTES, 0, 128, 0);
        judge(Checks.BYTES, -4, 256, 256);
        E.stays("no stones: 0", () -> Edges.row(Edges.bare(), 2, Checks.INTS, 0, 0, 1, 0), x -> x.judge(D, 2), 2);
    }

    private static void promise27WhereAnIntWrapsAround() {
        for (int told : new int[] {Edges.MIN, Edges.MAX, -221, 219}) {
            judge(Checks.INTS, 0, 364, told);
        }
        judge(Checks.INTS, -4, 364, 220);
    }

    private static void promise27OneThatMayNotBe() {
        E.stays("ONE", () -> Edges.row(Edges.scale(Edges.full(), 1, 0), 1, Checks.SHORTS, 1, 1, 2, -1), x -> x.judge(D, 1), 2);
        E.stays("THREE", () -> Edges.row(Edges.scale(Edges.full(), 4, 0), 1, Checks.SHORTS, 4, 8, 13, 26), x -> x.judge(D, 1), 2);
        E.stays("HALF", () -> Edges.row(Edges.full(), 1, Checks.SHORTS, 4, 2, 5, 1), x -> x.judge(Edges.HALF_AT, 1), 2);
        E.stays("GRAIN", () -> Edges.row(Edges.full(), 1, Checks.SHORTS, 1, -8, 2, -9, 0, -9), x -> x.judge(Edges.GRAIN_AT, 1), -4);
    }

    private static void promise27RefusalsInTheirOrder() {
        for (int none : Edges.NO_SHELVES) {
            for (int d = 0; d < 8; d++) {
                int shelf = d;
                E.stays("judge(" + none + ", " + d + ")", Edges::full, x -> x.judge(none, shelf), -1);
                E.stays("judge(" + d + ", " + none + ")", Edges::full, x -> x.judge(shelf, none), -1);
            }
        }
        for (int e = 0; e < 8; e++) {
            int row = e;
            E.stays("nothing, by " + e, Edges::full, x -> x.judge(Edges.NOTHING_AT, row), -11);
            for (int d : ROWS) {
                E.stays("the row at " + d + ", by " + e, Edges::full, x -> x.judge(d, row), -12);
            }
        }
        for (int d : SCALES) {
            E.stays("scale " + d + ", nothing", Edges::full, x -> x.judge(d, Edges.NOTHING_AT), -11);
            for (int e : SCALES) {
                E.stays("scale " + d + ", scale " + e, Edges::full, x -> x.judge(d, e), -12);
            }
        }
    }
}
