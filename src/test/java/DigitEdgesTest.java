/** Each boundary that the document names for promises 14 to 18 (threes, doubles, digits). */
public final class DigitEdgesTest {

    private static final Edges E = new Edges(DigitEdgesTest.class);

    public static void main(String[] args) {
        E.runAll();
    }

    // ---- promises 14 and 15

    private static int fewest(int base, int n) {
        int together = 0;
        int stone = 1;
        int count = 0;
        while (together < n) {
            together += stone;
            stone *= base;
            count++;
        }
        return count;
    }

    private static void promise14EveryN() {
        for (int n = 1; n <= 9999; n++) {
            E.due("threes(" + n + ", -1)", Checks.fresh().threes(n, -1), fewest(3, n));
        }
    }

    /** All of 1 .. n can be had by one stone more, not by these alone. */
    private static void promise14AtEachStoneMore() {
        int[] most = {1, 4, 13, 40, 121, 364, 1093, 3280, 9841};
        int last = 1;
        for (int count = 1; count <= 9; count++) {
            E.due("threes(" + most[count - 1] + ", -1)", Checks.fresh().threes(most[count - 1], -1), count);
            E.due("threes(" + most[count - 1] + ", " + (count - 1) + ")", Checks.fresh().threes(most[count - 1], count - 1), last);
            E.due("threes(" + most[count - 1] + ", " + count + ")", Checks.fresh().threes(most[count - 1], count), -4);
            E.due("threes(" + (most[count - 1] + 1) + ", -1)", Checks.fresh().threes(most[count - 1] + 1, -1), count + 1);
            E.due("threes(" + (most[count - 1] + 1) + ", " + count + ")", Checks.fresh().threes(most[count - 1] + 1, count), 3 * last);
            last *= 3;
        }
        E.due("the tenth", Checks.fresh().threes(9842, 9), 19683);
        E.due("no eleventh", Checks.fresh().threes(9999, 10), -4);
    }

    private static void promise14NFrom1To9999() {
        E.stays("threes(1, -1)", Edges::full, x -> x.threes(1, -1), 1);
        E.stays("threes(1, 0)", Edges::full, x -> x.threes(1, 0), 1);
        E.stays("threes(1, 1)", Edges::full, x -> x.threes(1, 1), -4);
        E.stays("threes(9999, -1)", Edges::full, x -> x.threes(9999, -1), 10);
        E.stays("threes(9999, 9)", Edges::full, x -> x.threes(9999, 9), 19683);
        for (int n : new int[] {0, -1, 10000, Edges.MIN, Edges.MAX}) {
            for (int i : new int[] {-1, 0, 10, Edges.MAX}) {
                E.stays("threes(" + n + ", " + i + ")", Edges::full, x -> x.threes(n, i), -1);
            }
        }
    }

    private static void promise14IFromMinus1On() {
        for (int i : new int[] {-2, Edges.MIN}) {
            E.stays("threes(40, " + i + ")", Edges::full, x -> x.threes(40, i), -1);
            E.stays("threes(0, " + i + ")", Edges::full, x -> x.threes(0, i), -1);
        }
        for (int i : new int[] {4, 5, 1000, Edges.MAX - 1, Edges.MAX}) {
            E.stays("threes(40, " + i + ")", Edges::full, x -> x.threes(40, i), -4);
        }
    }

    private static void promise14WhateverStones() {
        E.stays("no stones", Edges::bare, x -> x.threes(40, -1), 4);
        E.stays("six stones", Edges::full, x -> x.threes(9999, -1), 10);
    }

    private static void promise15EveryN() {
        for (int n = 1; n <= 9999; n++) {
            E.due("doubles(" + n + ", -1)", Checks.fresh().doubles(n, -1), fewest(2, n));
        }
    }

    private static void promise15AtEachStoneMore() {
        int last = 1;
        for (int count = 1; count <= 13; count++) {
            int most = 2 * last - 1;
            E.due("doubles(" + most + ", -1)", Checks.fresh().doubles(most, -1), count);
            E.due("doubles(" + most + ", " + (count - 1) + ")", Checks.fresh().doubles(most, count - 1), last);
            E.due("doubles(" + most + ", " + count + ")", Checks.fresh().doubles(most, count), -4);
            E.due("doubles(" + (most + 1) + ", -1)", Checks.fresh().doubles(most + 1, -1), count + 1);
            E.due("doubles(" + (most + 1) + ", " + count + ")", Checks.fresh().doubles(most + 1, count), 2 * last);
            last *= 2;
        }
        E.due("no fifteenth", Checks.fresh().doubles(9999, 14), -4);
    }

    private static void promise15NFrom1To9999() {
        E.stays("doubles(1, -1)", Edges::full, x -> x.doubles(1, -1), 1);
        E.stays("doubles(1, 0)", Edges::full, x -> x.doubles(1, 0), 1);
        E.stays("doubles(1, 1)", Edges::full, x -> x.doubles(1, 1), -4);
        E.stays("doubles(9999, -1)", Edges::full, x -> x.doubles(9999, -1), 14);
        E.stays("doubles(9999, 13)", Edges::full, x -> x.doubles(9999, 13), 8192);
        for (int n : new int[] {0, -1, 10000, Edges.MIN, Edges.MAX}) {
            for (int i : new int[] {-1, 0, 14, Edges.MAX}) {
                E.stays("doubles(" + n + ", " + i + ")", Edges::full, x -> x.doubles(n, i), -1);
            }
        }
    }

    private static void promise15IFromMinus1On() {
        for (int i : new int[] {-2, Edges.MIN}) {
            E.stays("doubles(16, " + i + ")", Edges::full, x -> x.doubles(16, i), -1);
            E.stays("doubles(0, " + i + ")", Edges::full, x -> x.doubles(0, i), -1);
        }
        for (int i : new int[] {5, 6, 1000, Edges.MAX - 1, Edges.MAX}) {
            E.stays("doubles(16, " + i + ")", Edges::full, x -> x.doubles(16, i), -4);
        }
    }

    private static void promise15WhateverStones() {
        E.stays("no stones", Edges::bare, x -> x.doubles(40, -1), 6);
    }

    // ---- promise 16

    /** The digits of a number as 1, 0, -1, the lowest first, by trying which digit leaves a number by 3. */
    private static int[] digitsOf(int n) {
        int[] digits = new int[12];
        int rest = n;
        for (int i = 0; i < digits.length; i++) {
            for (int digit = -1; digit <= 1; digit++) {
                if ((rest - digit) % 3 == 0) {
                    digits[i] = digit;
                }
            }
            rest = (rest - digits[i]) / 3;
        }
        return digits;
    }

    private static void promise16EveryNumber() {
        for (int n = -9999; n <= 9999; n++) {
            int[] digits = digitsOf(n);
            int count = 0;
            for (int i = 0; i < digits.length; i++) {
                count = digits[i] == 0 ? count : i + 1;
                E.due("digits(" + n + ", " + i + ")", Checks.fresh().digits(n, i), digits[i] < 0 ? 2 : digits[i]);
            }
            E.due("digits(" + n + ", -1)", Checks.fresh().digits(n, -1), count);
        }
    }

    private static void promise16NumbersFromMinus9999To9999() {
        E.stays("digits(9999, -1)", Edges::full, x -> x.digits(9999, -1), 10);
        E.stays("digits(-9999, -1)", Edges::full, x -> x.digits(-9999, -1), 10);
        E.stays("digits(9999, 9)", Edges::full, x -> x.digits(9999, 9), 1);
        E.stays("digits(-9999, 9)", Edges::full, x -> x.digits(-9999, 9), 2);
        for (int n : new int[] {-10000, 10000, Edges.MIN, Edges.MAX}) {
            for (int i : new int[] {-2, -1, 0, 10, Edges.MAX}) {
                E.stays("digits(" + n + ", " + i + ")", Edges::full, x -> x.digits(n, i), -1);
            }
        }
    }

    private static void promise16Of0() {
        E.stays("digits(0, -1)", Edges::full, x -> x.digits(0, -1), 0);
        E.stays("digits(0, 0)", Edges::full, x -> x.digits(0, 0), 0);
        E.stays("digits(0, MAX)", Edges::full, x -> x.digits(0, Edges.MAX), 0);
    }

    private static void promise16HowManyAtEachMore() {
        int most = 0;
        int power = 1;
        for (int count = 1; count <= 9; count++) {
            most += power;
            E.due("digits(" + most + ", -1)", Checks.fresh().digits(most, -1), count);
            E.due("digits(" + -most + ", -1)", Checks.fresh().digits(-most, -1), count);
            E.due("digits(" + (most + 1) + ", -1)", Checks.fresh().digits(most + 1, -1), count + 1);
            E.due("digits(" + -(most + 1) + ", -1)", Checks.fresh().digits(-most - 1, -1), count + 1);
            power *= 3;
        }
    }

    private static void promise16IFromMinus1On() {
        for (int i : new int[] {-2, Edges.MIN}) {
            E.stays("digits(5, " + i + ")", Edges::full, x -> x.digits(5, i), -1);
            E.stays("digits(0, " + i + ")", Edges::full, x -> x.digits(0, i), -1);
        }
        for (int i : new int[] {10, 11, 100, Edges.MAX - 1, Edges.MAX}) {
            E.stays("digits(5, " + i + ")", Edges::full, x -> x.digits(5, i), 0);
            E.stays("digits(-9999, " + i + ")", Edges::full, x -> x.digits(-9999, i), 0);
        }
    }

    // ---- promise 17

    private static int carryings(int a, int b) {
        int[] ofA = digitsOf(a);
        int[] ofB = digitsOf(b);
        int carried = 0;
        int carryings = 0;
        for (int i = 0; i < ofA.length; i++) {
            int together = ofA[i] + ofB[i] + carried;
            carried = together > 1 ? 1 : together < -1 ? -1 : 0;
            carryings += carried == 0 ? 0 : 1;
        }
        return carryings;
    }

    private static void promise17EveryPairOfSmallOnes() {
        for (int a = -130; a <= 130; a++) {
            for (int b = -130; b <= 130; b++) {
                E.due("added(" + a + ", " + b + ")", Checks.fresh().added(a, b), carryings(a, b));
            }
        }
    }

    private static void promise17PairsUpToTheEdges() {
        int[] numbers = {-9999, -9998, -9842, -9841, -9840, -3281, -3280, -1, 0, 1, 2, 3280, 3281, 9840, 9841, 9842, 9998, 9999};
        for (int a : numbers) {
            for (int b : numbers) {
                E.due("added(" + a + ", " + b + ")", Checks.fresh().added(a, b), carryings(a, b));
            }
        }
        for (int a = -9999; a <= 9999; a += 7) {
            E.due("added(" + a + ", 9999)", Checks.fresh().added(a, 9999), carryings(a, 9999));
            E.due("added(-9841, " + a + ")", Checks.fresh().added(-9841, a), carryings(-9841, a));
        }
    }

    private static void promise17NumbersFromMinus9999To9999() {
        E.stays("added(9999, -9999)", Edges::full, x -> x.added(9999, -9999), 0);
        E.stays("added(9999, 9999)", Edges::full, x -> x.added(9999, 9999), 6);
        E.stays("added(-9999, -9999)", Edges::full, x -> x.added(-9999, -9999), 6);
        for (int n : new int[] {-10000, 10000, Edges.MIN, Edges.MAX}) {
            for (int other : new int[] {0, 9999, -9999, n}) {
                E.stays("added(" + n + ", " + other + ")", Edges::full, x -> x.added(n, other), -1);
                E.stays("added(" + other + ", " + n + ")", Edges::full, x -> x.added(other, n), -1);
            }
        }
    }

    private static void promise17CarriedAbove1AndBelowMinus1Alone() {
        E.due("1 and 0 come to 1", Checks.fresh().added(1, 0), 0);
        E.due("1 and 1 come to 2", Checks.fresh().added(1, 1), 1);
        E.due("-1 and -1 come to -2", Checks.fresh().added(-1, -1), 1);
        E.due("1 and -1 come to 0", Checks.fresh().added(1, -1), 0);
        E.due("1 and 1 and a carried 1 come to 3", Checks.fresh().added(4, 4), 2);
        E.due("-1 and -1 and a carried -1", Checks.fresh().added(-4, -4), 2);
        E.due("a carried 1 and -1 come to 0", Checks.fresh().added(1, -2), 1);
        E.due("a carried -1 and 1 come to 0", Checks.fresh().added(-1, 2), 1);
        E.due("a carried 1 and 0 and 1 come to 2", Checks.fresh().added(4, 1), 2);
        E.due("a carried -1 and 0 and -1 come to -2", Checks.fresh().added(-1, -4), 2);
        E.due("a carried 1 and 0 come to 1", Checks.fresh().added(1, 10), 1);
        E.due("a carried 1 and 1 and -1 come to 1", Checks.fresh().added(4, -2), 1);
    }

    // ---- promise 18

    /** How far all can be had by three weights, 0 for one that isn't there. */
    private static int farthest(int a, int b, int c) {
        boolean[] had = new boolean[100];
        for (int lying = 0; lying < 27; lying++) {
            int weight = side(lying) * a + side(lying / 3) * b + side(lying / 9) * c;
            if (weight > 0) {
                had[weight] = true;
            }
        }
        int n = 0;
        while (had[n + 1]) {
            n++;
        }
        return n;
    }

    private static int side(int lying) {
        return lying % 3 == 2 ? -1 : lying % 3;
    }

    /** By k and the greatest of the set: how many sets reach n, and the first one of all up to there. */
    private static void promise18EveryKMAndN() {
        for (int n = 1; n <= 13; n++) {
            int[] counts = new int[4];
            int[] firsts = {-4, -4, -4, -4};
            for (int m = 1; m <= 30; m++) {
                for (int k = 1; k <= 3; k++) {
                    addSets(k, m, n, counts, firsts);
                    E.due("sets(" + k + ", " + m + ", " + n + ", 0)", Checks.fresh().sets(k, m, n, 0), counts[k]);
                    E.due("sets(" + k + ", " + m + ", " + n + ", 1)", Checks.fresh().sets(k, m, n, 1), firsts[k]);
                }
            }
        }
    }

    private static void addSets(int k, int greatest, int n, int[] counts, int[] firsts) {
        for (int a = k == 3 ? 1 : 0; a <= (k == 3 ? greatest - 2 : 0); a++) {
            for (int b = k >= 2 ? a + 1 : 0; b <= (k >= 2 ? greatest - 1 : 0); b++) {
                if (farthest(a, b, greatest) >= n) {
                    counts[k]++;
                    int told = a * 10000 + b * 100 + greatest;
                    firsts[k] = firsts[k] < 0 || told < firsts[k] ? told : firsts[k];
                }
            }
        }
    }

    private static void promise18EachNumberInItsRange() {
        int[][] least = {{1, 1, 1, 0}, {3, 30, 13, 1}};
        int[] wants = {1, 10309};
        for (int i = 0; i < 2; i++) {
            int[] a = least[i];
            E.stays("sets at the edge", Edges::full, x -> x.sets(a[0], a[1], a[2], a[3]), wants[i]);
        }
        int[][] beyond = {{0, 4}, {0, 31}, {0, 14}, {-1, 2}};
        for (int place = 0; place < 4; place++) {
            for (int number : new int[] {beyond[place][0], beyond[place][1], Edges.MIN, Edges.MAX}) {
                int[] a = {2, 10, 4, 0};
                a[place] = number;
                E.stays("sets with " + number + " at " + place, Edges::full, x -> x.sets(a[0], a[1], a[2], a[3]), -1);
                int[] none = {1, 1, 13, 1};
                none[place] = number;
                E.stays("none, and " + number + " at " + place, Edges::full, x -> x.sets(none[0], none[1], none[2], none[3]), -1);
            }
        }
    }

    private static void promise18NoneByFewerWeightsThanK() {
        E.stays("sets(2, 1, 1, 0)", Edges::bare, x -> x.sets(2, 1, 1, 0), 0);
        E.stays("sets(2, 1, 1, 1)", Edges::bare, x -> x.sets(2, 1, 1, 1), -4);
        E.stays("sets(3, 2, 1, 0)", Edges::bare, x -> x.sets(3, 2, 1, 0), 0);
        E.stays("sets(3, 2, 1, 1)", Edges::bare, x -> x.sets(3, 2, 1, 1), -4);
        E.stays("sets(2, 2, 1, 1)", Edges::bare, x -> x.sets(2, 2, 1, 1), 102);
        E.stays("sets(3, 3, 1, 1)", Edges::bare, x -> x.sets(3, 3, 1, 1), 10203);
    }

    private static void promise18NoneBeyondWhatKCanHave() {
        E.stays("k 1, n 1", Edges::full, x -> x.sets(1, 30, 1, 1), 1);
        E.stays("k 1, n 2", Edges::full, x -> x.sets(1, 30, 2, 1), -4);
        E.stays("k 2, n 4", Edges::full, x -> x.sets(2, 30, 4, 1), 103);
        E.stays("k 2, n 5", Edges::full, x -> x.sets(2, 30, 5, 1), -4);
        E.stays("k 2, n 4, m 2", Edges::full, x -> x.sets(2, 2, 4, 1), -4);
        E.stays("k 3, n 13, m 9", Edges::full, x -> x.sets(3, 9, 13, 1), 10309);
        E.stays("k 3, n 13, m 8", Edges::full, x -> x.sets(3, 8, 13, 1), -4);
    }
}
