/** Promises 14 to 18 (threes, doubles, digits). */
public final class DigitsTest {

    private static final Checks CHECKS = new Checks("digits");

    public static void main(String[] args) {
        promise14Threes();
        promise15Doubles();
        promise16Digits();
        promise17Added();
        promise18Sets();
        CHECKS.end();
    }

    private static void due(String call, long got, long want) {
        CHECKS.due(call, got, want);
    }

    private static void promise14Threes() {
        int[][] counts = {{1, 1}, {2, 2}, {4, 2}, {5, 3}, {13, 3}, {14, 4}, {40, 4}, {41, 5}, {9841, 9}, {9842, 10}, {9999, 10}};
        for (int[] count : counts) {
            due("threes(" + count[0] + ", -1)", Checks.fresh().threes(count[0], -1), count[1]);
            due("the last of " + count[0], Checks.fresh().threes(count[0], count[1] - 1), power(3, count[1] - 1));
            due("none behind it", Checks.fresh().threes(count[0], count[1]), -4);
        }
        due("threes(40, 0)", Checks.fresh().threes(40, 0), 1);
        due("threes(40, 2)", Checks.fresh().threes(40, 2), 9);
        due("far behind", Checks.fresh().threes(40, Integer.MAX_VALUE), -4);
        due("threes(0, -1)", Checks.fresh().threes(0, -1), -1);
        due("threes(10000, -1)", Checks.fresh().threes(10000, -1), -1);
        due("threes(-5, 0)", Checks.fresh().threes(-5, 0), -1);
        due("threes(40, -2)", Checks.fresh().threes(40, -2), -1);
    }

    private static void promise15Doubles() {
        int[][] counts = {{1, 1}, {2, 2}, {3, 2}, {4, 3}, {7, 3}, {8, 4}, {8191, 13}, {8192, 14}, {9999, 14}};
        for (int[] count : counts) {
            due("doubles(" + count[0] + ", -1)", Checks.fresh().doubles(count[0], -1), count[1]);
            due("the last of " + count[0], Checks.fresh().doubles(count[0], count[1] - 1), power(2, count[1] - 1));
            due("none behind it", Checks.fresh().doubles(count[0], count[1]), -4);
        }
        due("doubles(16, 0)", Checks.fresh().doubles(16, 0), 1);
        due("doubles(16, 2)", Checks.fresh().doubles(16, 2), 4);
        due("doubles(0, -1)", Checks.fresh().doubles(0, -1), -1);
        due("doubles(10000, 0)", Checks.fresh().doubles(10000, 0), -1);
        due("doubles(16, -2)", Checks.fresh().doubles(16, -2), -1);
    }

    private static int power(int base, int times) {
        int power = 1;
        for (int i = 0; i < times; i++) {
            power *= base;
        }
        return power;
    }

    private static void promise16Digits() {
        for (int n = -9999; n <= 9999; n++) {
            int count = Checks.fresh().digits(n, -1);
            int sum = 0;
            for (int i = 0; i < count; i++) {
                int digit = Checks.fresh().digits(n, i);
                CHECKS.holds("digit " + i + " of " + n, digit >= 0 && digit <= 2);
                sum += (digit == 2 ? -1 : digit) * power(3, i);
            }
            due("digits of " + n + " come to", sum, n);
            CHECKS.holds("the highest of " + n + " is not 0", count == 0 || Checks.fresh().digits(n, count - 1) != 0);
            due("beyond the digits of " + n, Checks.fresh().digits(n, count), 0);
        }
        due("digits(0, -1)", Checks.fresh().digits(0, -1), 0);
        due("digits(0, 0)", Checks.fresh().digits(0, 0), 0);
        due("digits(2, 0)", Checks.fresh().digits(2, 0), 2);
        due("digits(2, 1)", Checks.fresh().digits(2, 1), 1);
        due("digits(-2, 0)", Checks.fresh().digits(-2, 0), 1);
        due("digits(-2, 1)", Checks.fresh().digits(-2, 1), 2);
        due("far beyond", Checks.fresh().digits(-9999, Integer.MAX_VALUE), 0);
        due("digits(5, -2)", Checks.fresh().digits(5, -2), -1);
        due("digits(10000, 0)", Checks.fresh().digits(10000, 0), -1);
        due("digits(-10000, 0)", Checks.fresh().digits(-10000, 0), -1);
    }

    private static void promise17Added() {
        due("added(0, 0)", Checks.fresh().added(0, 0), 0);
        due("added(1, 1)", Checks.fresh().added(1, 1), 1);
        due("added(-1, -1)", Checks.fresh().added(-1, -1), 1);
        due("added(1, -1)", Checks.fresh().added(1, -1), 0);
        due("added(4, 1): both columns", Checks.fresh().added(4, 1), 2);
        due("added(13, 1)", Checks.fresh().added(13, 1), 3);
        due("added(-13, -13)", Checks.fresh().added(-13, -13), 3);
        due("added(9841, 1): nine columns", Checks.fresh().added(9841, 1), 9);
        due("added(-9841, -1)", Checks.fresh().added(-9841, -1), 9);
        due("added(9841, -9841)", Checks.fresh().added(9841, -9841), 0);
        due("added(3, 2): nothing meets but 1 and 1", Checks.fresh().added(3, 2), 1);
        due("added(10000, 0)", Checks.fresh().added(10000, 0), -1);
        due("added(0, 10000)", Checks.fresh().added(0, 10000), -1);
        due("added(-10000, 0)", Checks.fresh().added(-10000, 0), -1);
        due("added(0, -10000)", Checks.fresh().added(0, -10000), -1);
    }

    private static void promise18Sets() {
        due("one stone for 1", Checks.fresh().sets(1, 30, 1, 0), 1);
        due("which", Checks.fresh().sets(1, 30, 1, 1), 1);
        due("one stone for 2", Checks.fresh().sets(1, 30, 2, 0), 0);
        due("which, none", Checks.fresh().sets(1, 30, 2, 1), -4);
        due("two stones for 1, up to 3: all but 1 apart too", Checks.fresh().sets(2, 3, 1, 0), 3);
        due("the first of these", Checks.fresh().sets(2, 3, 1, 1), 102);
        due("two stones for 4", Checks.fresh().sets(2, 30, 4, 0), 1);
        due("the first of these for 4", Checks.fresh().sets(2, 30, 4, 1), 103);
        due("two stones for 5", Checks.fresh().sets(2, 30, 5, 1), -4);
        due("two stones by their difference, too", Checks.fresh().sets(2, 30, 1, 0), 29 + 28);
        due("three stones for 13", Checks.fresh().sets(3, 30, 13, 0), 1);
        due("the first of these for 13", Checks.fresh().sets(3, 30, 13, 1), 10309);
        due("three stones for 1", Checks.fresh().sets(3, 3, 1, 0), 1);
        due("three stones up to 9 for 1, by two against one, too", Checks.fresh().sets(3, 9, 1, 0), 72);
        due("three stones up to 30 for 1", Checks.fresh().sets(3, 30, 1, 0), 1447);
        due("m 1", Checks.fresh().sets(1, 1, 1, 0), 1);
        due("the first for 6", Checks.fresh().sets(3, 30, 6, 1), 10203);
        due("the first for 7", Checks.fresh().sets(3, 30, 7, 1), 10204);
        due("m below k", Checks.fresh().sets(3, 2, 1, 0), 0);
        due("m below k, which", Checks.fresh().sets(3, 2, 1, 1), -4);
        int[][] wrong = {{0, 5, 5, 0}, {4, 5, 5, 0}, {1, 0, 5, 0}, {1, 31, 5, 0}, {1, 5, 0, 0}, {1, 5, 14, 0}, {1, 5, 5, 2}, {1, 5, 5, -1}};
        for (int[] w : wrong) {
            due("sets(" + w[0] + ", " + w[1] + ", " + w[2] + ", " + w[3] + ")", Checks.fresh().sets(w[0], w[1], w[2], w[3]), -1);
        }
    }
}
