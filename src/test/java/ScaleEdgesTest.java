/** Each boundary that the document names for promises 5 to 11 (scales). */
public final class ScaleEdgesTest {

    private static final Edges E = new Edges(ScaleEdgesTest.class);
    private static final int D = Edges.SCALE_AT;
    private static final int[] NO_WEIGHTS = {-10000, 10000, Edges.MIN, Edges.MAX};
    private static final int[] NO_LYINGS = {-1, 729, Edges.MIN, Edges.MAX};
    private static final int[] SIX_HEAVY = {99, 99, 99, 99, 99, 99, 99, 99, 99, 99, 99, 99};
    private static final int[] SIX_ALIKE = {5, 0, 5, 0, 5, 0, 5, 0, 5, 0, 5, 0};

    public static void main(String[] args) {
        E.runAll();
    }

    private static FourStones four(int kind, int figure) {
        return Edges.scale(Edges.shop(1, 5, 3, 3, 9, 8, 27, 2), kind, figure);
    }

    private static void weighs(int[] stones, int kind, int figure, String sides, int want) {
        E.stays("kind " + kind + ", figure " + figure + " of " + sides,
                () -> Edges.scale(Edges.shop(stones), kind, figure), x -> x.weighs(D, Checks.lying(sides)), want);
    }

    // ---- promises 5 and 6

    private static long plainWeight(int kind, int figure, int right, int left) {
        int scale = right - left;
        switch (kind) {
            case 2:
                return (figure + 1) * right - left;
            case 3:
                return scale - figure;
            case 4:
                return (figure + 1) * right - left + right;
            case 5:
                return scale < 0 ? -scale : scale;
            case 6:
                return scale / 2;
            case 7:
                return scale - figure + (left > 0 ? 1 : 0);
            default:
                return scale;
        }
    }

    private static void promise5EveryKindFigureAndLying() {
        int[] weights = {1, 3, 9, 27};
        for (int kind = 0; kind < 8; kind++) {
            for (int figure = 0; figure < 10; figure++) {
                FourStones x = four(kind, figure);
                for (int lying = 0; lying < 81; lying++) {
                    int[] pans = new int[3];
                    int rightStones = 0;
                    int rest = lying;
                    for (int weight : weights) {
                        pans[rest % 3] += weight;
                        rightStones += rest % 3 == 1 ? 1 : 0;
                        rest /= 3;
                    }
                    boolean alone = kind == 1 || kind == 6;
                    boolean may = alone ? pans[2] == 0 : kind != 4 || rightStones <= 2;
                    String call = "kind " + kind + ", figure " + figure + ", lying " + lying;
                    E.due("may: " + call, x.may(D, lying), may ? 1 : 0);
                    E.due("weighs: " + call, x.weighs(D, lying),
                            may ? plainWeight(kind, figure, pans[1], pans[2]) : -1000000003);
                }
            }
        }
    }

    private static void promise5TheGreatestAndTheLeast() {
        weighs(SIX_HEAVY, 0, 0, "rrrrrr", 594);
        weighs(SIX_HEAVY, 0, 9, "llllll", -594);
        weighs(SIX_HEAVY, 1, 9, "rrrrrr", 594);
        weighs(SIX_HEAVY, 2, 9, "rrrrrr", 5940);
        weighs(SIX_HEAVY, 2, 9, "llllll", -594);
        weighs(SIX_HEAVY, 3, 9, "llllll", -603);
        weighs(SIX_HEAVY, 4, 9, "rr....", 2178);
        weighs(SIX_HEAVY, 4, 9, "llllll", -594);
        weighs(SIX_HEAVY, 5, 9, "llllll", 594);
        weighs(SIX_HEAVY, 6, 9, "rrrrrr", 297);
        weighs(SIX_HEAVY, 6, 9, "r.....", 49);
        weighs(SIX_HEAVY, 7, 9, "llllll", -602);
        weighs(SIX_HEAVY, 7, 9, "rrrrrr", 585);
    }

    private static void promise5WithNoStones() {
        int[] wants = {0, 0, 0, -9, 0, 0, 0, -9};
        for (int kind = 0; kind < 8; kind++) {
            int k = kind;
            E.stays("kind " + kind, () -> Edges.scale(Edges.bare(), k, 9), x -> x.weighs(D, 0), wants[kind]);
            E.stays("no lying 1", () -> Edges.scale(Edges.bare(), k, 9), x -> x.weighs(D, 1), -1000000001);
        }
    }

    private static void promise5AnswersBelow0AreNoRefusals() {
        weighs(new int[] {1, 0}, 0, 0, "l", -1);
        weighs(new int[] {3, 0}, 0, 0, "l", -3);
        weighs(new int[] {11, 0}, 0, 0, "l", -11);
        weighs(new int[] {12, 0}, 0, 0, "l", -12);
    }

    private static void promise5CutTowards0() {
        weighs(new int[] {1, 0}, 6, 0, "r", 0);
        weighs(new int[] {2, 0}, 6, 0, "r", 1);
        weighs(new int[] {3, 0}, 6, 0, "r", 1);
    }

    private static void promise5RefusalsInTheirOrder() {
        for (int d : Edges.NO_SHELVES) {
            E.stays("weighs(" + d + ", 0)", Edges::full, x -> x.weighs(d, 0), -1000000001);
            E.stays("weighs(" + d + ", 729)", Edges::full, x -> x.weighs(d, 729), -1000000001);
        }
        for (int lying : NO_LYINGS) {
            for (int d = 0; d < 8; d++) {
                int shelf = d;
                E.stays("weighs(" + d + ", " + lying + ")", Edges::full, x -> x.weighs(shelf, lying), -1000000001);
            }
        }
        E.stays("of nothing", Edges::full, x -> x.weighs(Edges.NOTHING_AT, 728), -1000000011);
        for (int d : new int[] {Edges.BYTES_AT, Edges.SHORTS_AT, Edges.INTS_AT, Edges.EMPTY_AT}) {
            E.stays("of the row at " + d, Edges::full, x -> x.weighs(d, 728), -1000000012);
        }
        E.stays("it may not be", Edges::full, x -> x.weighs(Edges.HALF_AT, 728), -1000000003);
    }

    private static void promise5OnTheFirstAndTheLastShelf() {
        for (int d : new int[] {0, 7}) {
            FourStones x = Checks.four();
            x.keep(d, 1, 3, 1);
            E.due("weighs on " + d, x.weighs(d, 1), 0);
            E.due("may on " + d, x.may(d, 1), 1);
            E.due("ways on " + d, x.ways(d, 0), 1);
            E.due("first on " + d, x.first(d, 0), 1);
            E.due("lifts on " + d, x.lifts(d, 0, 1), 1);
            E.due("reach on " + d, x.reach(d), 39);
            E.due("hole on " + d, x.hole(d), 40);
        }
    }

    private static void may(int kind, String sides, int want) {
        E.stays("kind " + kind + " may " + sides, () -> Edges.scale(Edges.full(), kind, 0), x -> x.may(D, Checks.lying(sides)), want);
    }

    private static void promise6OneIfNoStoneIsLeft() {
        for (int kind : new int[] {1, 6}) {
            may(kind, "......", 1);
            may(kind, "rrrrrr", 1);
            may(kind, "l.....", 0);
            may(kind, ".....l", 0);
            may(kind, "rrrrrl", 0);
            may(kind, "llllll", 0);
        }
    }

    private static void promise6ThreeIfNoMoreThanTwoAreRight() {
        may(4, "......", 1);
        may(4, "rr....", 1);
        may(4, "....rr", 1);
        may(4, "rrllll", 1);
        may(4, "llllll", 1);
        may(4, "rrr...", 0);
        may(4, "r.r..r", 0);
        may(4, "...rrr", 0);
        may(4, "rrrlll", 0);
        may(4, "rrrrrr", 0);
    }

    private static void promise6OthersAlways() {
        for (int kind : new int[] {0, 2, 3, 5, 7}) {
            may(kind, "rrrrrr", 1);
            may(kind, "llllll", 1);
            may(kind, "rlrlrl", 1);
            may(kind, "......", 1);
        }
    }

    private static void promise6RefusalsInTheirOrder() {
        for (int d : Edges.NO_SHELVES) {
            E.stays("may(" + d + ", 0)", Edges::full, x -> x.may(d, 0), -1);
        }
        for (int lying : NO_LYINGS) {
            for (int d = 0; d < 8; d++) {
                int shelf = d;
                E.stays("may(" + d + ", " + lying + ")", Edges::full, x -> x.may(shelf, lying), -1);
            }
        }
        E.stays("may(3, 728)", Edges::full, x -> x.may(3, 728), 1);
        scaleShelves("may", (x, d) -> x.may(d, 728));
        E.stays("no stones: may(3, 0)", Edges::bare, x -> x.may(3, 0), 1);
        E.stays("no stones: may(3, 1)", Edges::bare, x -> x.may(3, 1), -1);
    }

    // ---- promises 7 to 11

    /** A call of a shelf alone, other arguments as they must be. */
    private interface OfShelf {
        long asked(FourStones x, int d);
    }

    private static void scaleShelves(String call, OfShelf asking) {
        for (int d : Edges.NO_SHELVES) {
            E.stays(call + " on " + d, Edges::full, x -> asking.asked(x, d), -1);
        }
        E.stays(call + " on nothing", Edges::full, x -> asking.asked(x, Edges.NOTHING_AT), -11);
        for (int d : new int[] {Edges.BYTES_AT, Edges.SHORTS_AT, Edges.INTS_AT, Edges.EMPTY_AT}) {
            E.stays(call + " on the row at " + d, Edges::full, x -> asking.asked(x, d), -12);
        }
    }

    /** Wrong arguments are told ahead of whatever is on the shelf. */
    private static void aheadOfShelves(String call, OfShelf asking) {
        for (int d = 0; d < 8; d++) {
            int shelf = d;
            E.stays(call + " on " + d, Edges::full, x -> asking.asked(x, shelf), -1);
        }
    }

    private static void promise7WeightsFromMinus9999To9999() {
        for (int weight : new int[] {-9999, -9998, 9998, 9999}) {
            E.stays("ways(3, " + weight + ")", Edges::full, x -> x.ways(D, weight), 0);
        }
        for (int weight : NO_WEIGHTS) {
            aheadOfShelves("ways of " + weight, (x, d) -> x.ways(d, weight));
        }
    }

    private static void promise7ShelvesInTheirOrder() {
        scaleShelves("ways of 0", (x, d) -> x.ways(d, 0));
        scaleShelves("ways of 9999", (x, d) -> x.ways(d, 9999));
    }

    private static void waysOfAlike(int kind, int figure, int weight, int want) {
        E.stays("kind " + kind + ": ways of " + weight, () -> Edges.scale(Edges.shop(SIX_ALIKE), kind, figure),
                x -> x.ways(D, weight), want);
    }

    private static void promise7OfNoneAndOfAllLyings() {
        E.stays("no stones: 0", Edges::bare, x -> x.ways(D, 0), 1);
        E.stays("no stones: 1", Edges::bare, x -> x.ways(D, 1), 0);
        waysOfAlike(0, 0, 0, 141);
        waysOfAlike(0, 0, 5, 126);
        waysOfAlike(0, 0, -5, 126);
        waysOfAlike(0, 0, 30, 1);
        waysOfAlike(0, 0, -30, 1);
        waysOfAlike(0, 0, 31, 0);
        waysOfAlike(0, 0, 35, 0);
        waysOfAlike(1, 0, 0, 1);
        waysOfAlike(1, 0, 15, 20);
        waysOfAlike(1, 0, -5, 0);
        waysOfAlike(5, 0, 30, 2);
        waysOfAlike(5, 0, 5, 252);
        waysOfAlike(5, 0, -5, 0);
        waysOfAlike(3, 5, -35, 1);
        waysOfAlike(3, 5, 25, 1);
    }

    private static void promise7OnlyLyingsThatMayBe() {
        waysOfAlike(4, 0, 10, 6 + 15 * 6);
        waysOfAlike(4, 0, 20, 15);
        waysOfAlike(4, 0, 30, 0);
        waysOfAlike(6, 0, 15, 1);
        waysOfAlike(6, 0, -15, 0);
    }

    private static void promise7ToTheHeaviestThatAScaleTells() {
        E.stays("5940 on ARMS", () -> Edges.scale(Edges.shop(SIX_HEAVY), 2, 9), x -> x.ways(D, 5940), 1);
        E.stays("5939 on ARMS", () -> Edges.scale(Edges.shop(SIX_HEAVY), 2, 9), x -> x.ways(D, 5939), 0);
        E.stays("-603 on OFF", () -> Edges.scale(Edges.shop(SIX_HEAVY), 3, 9), x -> x.ways(D, -603), 1);
    }

    private static void promise8WeightsFromMinus9999To9999() {
        for (int weight : new int[] {-9999, 9999}) {
            E.stays("first(3, " + weight + ")", Edges::full, x -> x.first(D, weight), -4);
        }
        for (int weight : NO_WEIGHTS) {
            aheadOfShelves("first of " + weight, (x, d) -> x.first(d, weight));
        }
    }

    private static void promise8ShelvesInTheirOrder() {
        scaleShelves("first of 0", (x, d) -> x.first(d, 0));
        scaleShelves("first of one that can't be had", (x, d) -> x.first(d, 9999));
    }

    private static void promise8FromTheFirstToTheLastLying() {
        E.stays("first of 0", Edges::full, x -> x.first(D, 0), 0);
        E.stays("first of all left", Edges::full, x -> x.first(D, -220), 728);
        E.stays("none below", Edges::full, x -> x.first(D, -221), -4);
        E.stays("first of all right", Edges::full, x -> x.first(D, 220), 364);
        E.stays("none above", Edges::full, x -> x.first(D, 221), -4);
        E.stays("no stones: 0", Edges::bare, x -> x.first(D, 0), 0);
        E.stays("no stones: 1", Edges::bare, x -> x.first(D, 1), -4);
        E.stays("no stones: -1", Edges::bare, x -> x.first(D, -1), -4);
    }

    private static void promise8OfSeveralTheLeastNumber() {
        E.stays("the first stone of six", () -> Edges.shop(SIX_ALIKE), x -> x.first(D, 5), 1);
        E.stays("the first two of six", () -> Edges.shop(SIX_ALIKE), x -> x.first(D, 10), 4);
        E.stays("the first one left", () -> Edges.shop(SIX_ALIKE), x -> x.first(D, -5), 2);
        E.stays("two right ahead of a later one", () -> Edges.shop(1, 0, 2, 0, 3, 0), x -> x.first(D, 3), 4);
        E.stays("signless: right ahead of left", () -> Edges.scale(Edges.shop(5, 0), 5, 0), x -> x.first(D, 5), 1);
    }

    private static void promise8NotOneThatMayNotBe() {
        E.stays("SCALE", () -> Edges.shop(5, 0, 3, 0, 2, 0), x -> x.first(D, 2), Checks.lying("rl"));
        E.stays("ONE", () -> Edges.scale(Edges.shop(5, 0, 3, 0, 2, 0), 1, 0), x -> x.first(D, 2), Checks.lying("..r"));
        E.stays("HALF", () -> Edges.scale(Edges.shop(5, 0, 3, 0, 2, 0), 6, 0), x -> x.first(D, 1), Checks.lying(".r"));
        E.stays("THREE", () -> Edges.scale(Edges.shop(1, 0, 1, 0, 1, 0, 3, 0), 4, 0), x -> x.first(D, 6), Checks.lying("...r"));
    }

    private static void promise9WeightsFromMinus9999To9999() {
        for (int what = 0; what < 2; what++) {
            int asked = what;
            for (int weight : new int[] {-9999, 9999}) {
                E.stays("lifts(3, " + weight + ", " + what + ")", Edges::full, x -> x.lifts(D, weight, asked), -4);
            }
            for (int weight : NO_WEIGHTS) {
                aheadOfShelves("lifts of " + weight + ", " + what, (x, d) -> x.lifts(d, weight, asked));
            }
        }
    }

    private static void promise9What0And1Alone() {
        for (int what : new int[] {-1, 2, Edges.MIN, Edges.MAX}) {
            aheadOfShelves("lifts of 1, what " + what, (x, d) -> x.lifts(d, 1, what));
            E.stays("one that can't be had, what " + what, Edges::full, x -> x.lifts(D, 999, what), -1);
        }
    }

    private static void promise9ShelvesInTheirOrder() {
        for (int what = 0; what < 2; what++) {
            int asked = what;
            scaleShelves("lifts of 0, " + what, (x, d) -> x.lifts(d, 0, asked));
            scaleShelves("lifts of 9999, " + what, (x, d) -> x.lifts(d, 9999, asked));
        }
    }

    private static void lifts(int[] stones, int weight, int lifts, int lying) {
        E.stays("lifts of " + weight, () -> Edges.shop(stones), x -> x.lifts(D, weight, 0), lifts);
        E.stays("its lying, " + weight, () -> Edges.shop(stones), x -> x.lifts(D, weight, 1), lying);
    }

    private static void promise9FromNoneToSix() {
        int[] stones = {1, 0, 3, 0, 9, 0, 27, 0, 81, 0, 99, 0};
        lifts(stones, 0, 0, 0);
        lifts(stones, 1, 1, 1);
        lifts(stones, -99, 1, 486);
        lifts(stones, 220, 6, 364);
        lifts(stones, -220, 6, 728);
        lifts(stones, 221, -4, -4);
        lifts(stones, -221, -4, -4);
        lifts(new int[0], 0, 0, 0);
        lifts(new int[0], 1, -4, -4);
    }

    private static void promise9FewestAheadOfTheLeastNumber() {
        lifts(new int[] {1, 0, 2, 0, 3, 0}, 3, 1, Checks.lying("..r"));
        lifts(new int[] {1, 0, 2, 0, 3, 0, 3, 0}, 3, 1, Checks.lying("..r"));
        lifts(SIX_ALIKE, 10, 2, 4);
        lifts(SIX_ALIKE, -10, 2, 8);
        lifts(new int[] {2, 0, 2, 0, 4, 0}, 2, 1, 1);
    }

    private static void promise9NotOneThatMayNotBe() {
        E.stays("2 on ONE", () -> Edges.scale(Edges.shop(5, 0, 3, 0, 1, 0, 1, 0), 1, 0), x -> x.lifts(D, 2, 1), Checks.lying("..rr"));
        E.stays("how many", () -> Edges.scale(Edges.shop(5, 0, 3, 0, 1, 0, 1, 0), 1, 0), x -> x.lifts(D, 2, 0), 2);
    }

    private static void reach(int[] stones, int kind, int figure, int want) {
        E.stays("reach of kind " + kind + ", figure " + figure, () -> Edges.scale(Edges.shop(stones), kind, figure), x -> x.reach(D), want);
        E.stays("hole of kind " + kind + ", figure " + figure, () -> Edges.scale(Edges.shop(stones), kind, figure), x -> x.hole(D), want + 1);
    }

    private static void promise10From0On() {
        reach(new int[0], 0, 0, 0);
        reach(new int[] {2, 0}, 0, 0, 0);
        reach(new int[] {1, 0}, 0, 0, 1);
        reach(new int[] {1, 0, 3, 0}, 0, 0, 4);
        reach(new int[] {1, 0, 4, 0}, 0, 0, 1);
        reach(new int[] {1, 0, 3, 0, 9, 0, 27, 0, 81, 0, 99, 0}, 0, 0, 220);
        reach(new int[] {1, 0, 2, 0, 4, 0, 8, 0, 16, 0, 32, 0}, 1, 0, 63);
        reach(new int[] {1, 0, 1, 0, 1, 0, 1, 0, 1, 0, 1, 0}, 0, 0, 6);
    }

    private static void promise10ByTheScalesOfEachKind() {
        int[] stones = {1, 0, 2, 0, 4, 0, 8, 0, 16, 0, 32, 0};
        reach(stones, 2, 0, 63);
        reach(stones, 3, 9, 54);
        reach(stones, 4, 0, twoOfDoubles());
        reach(stones, 5, 0, 63);
        reach(stones, 6, 0, 31);
        reach(stones, 7, 9, 54);
        reach(stones, 7, 0, 63);
        reach(new int[] {1, 0}, 7, 1, 0);
        reach(new int[] {1, 0}, 3, 1, 0);
        reach(new int[] {2, 0}, 3, 1, 1);
        reach(new int[] {1, 0, 1, 0}, 6, 0, 1);
        reach(new int[] {1, 0, 1, 0}, 2, 1, 2);
    }

    /** By THREE, figure 0: twice what is right less what is left, at most two stones right. */
    private static int twoOfDoubles() {
        boolean[] had = new boolean[200];
        for (int lying = 0; lying < 729; lying++) {
            int weight = 0;
            int right = 0;
            int rest = lying;
            for (int stone = 0; stone < 6; stone++) {
                weight += rest % 3 == 1 ? 2 << stone : rest % 3 == 2 ? -(1 << stone) : 0;
                right += rest % 3 == 1 ? 1 : 0;
                rest /= 3;
            }
            if (right <= 2 && weight > 0) {
                had[weight] = true;
            }
        }
        int n = 0;
        while (had[n + 1]) {
            n++;
        }
        return n;
    }

    private static void promise10WeightsAbove999AreNotAsked() {
        FourStones x = Edges.scale(Edges.shop(SIX_HEAVY), 2, 9);
        E.due("5940 can be had", x.first(D, 5940), 364);
        E.due("reach", x.reach(D), 0);
        E.due("hole", x.hole(D), 1);
    }

    private static void promise10WeightsUpTo999CanBeHad() {
        int[] stones = {99, 0, 1, 0, 1, 0, 1, 0, 1, 0, 1, 0};
        E.stays("first of 998", () -> Edges.scale(Edges.shop(stones), 2, 9), x -> x.first(D, 998), Checks.lying("rllr"));
        E.stays("first of 999", () -> Edges.scale(Edges.shop(stones), 2, 9), x -> x.first(D, 999), Checks.lying("rlr"));
        E.stays("first of 1000", () -> Edges.scale(Edges.shop(stones), 2, 9), x -> x.first(D, 1000), Checks.lying("rr"));
        E.stays("all the same from 1 on", () -> Edges.scale(Edges.shop(stones), 2, 9), x -> x.reach(D), 0);
    }

    private static void promise10ShelvesInTheirOrder() {
        scaleShelves("reach", FourStones::reach);
        E.stays("no stones", Edges::bare, x -> x.reach(D), 0);
    }

    private static void promise11TheLeastThatCannot() {
        E.stays("no stones", Edges::bare, x -> x.hole(D), 1);
        E.stays("a gap ahead of others", () -> Edges.shop(1, 0, 5, 0, 20, 0), x -> x.hole(D), 2);
        E.stays("behind 220", Edges::full, x -> x.hole(D), 221);
    }

    private static void promise11ShelvesInTheirOrder() {
        scaleShelves("hole", FourStones::hole);
    }
}
