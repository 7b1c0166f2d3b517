/** Promises 5 to 11 (scales). */
public final class ScalesTest {

    private static final Checks CHECKS = new Checks("scales");
    private static final int D = 3;

    public static void main(String[] args) {
        promise5Weighs();
        promise5WeighsRefusals();
        promise6May();
        promise7Ways();
        promise8First();
        promise9Lifts();
        promise10And11ReachAndHole();
        shelfRefusals();
        CHECKS.end();
    }

    private static void due(String call, long got, long want) {
        CHECKS.due(call, got, want);
    }

    private static void dueWeighs(FourStones x, int kind, int figure, String sides, int want) {
        x.keep(D, 1, kind, figure);
        due("kind " + kind + ", figure " + figure + " of " + sides, x.weighs(D, Checks.lying(sides)), want);
    }

    private static void promise5Weighs() {
        FourStones x = Checks.four();
        dueWeighs(x, 0, 9, "rl.r", 25);
        dueWeighs(x, 0, 9, "...l", -27);
        dueWeighs(x, 1, 9, "r..r", 28);
        dueWeighs(x, 2, 0, "rl.r", 25);
        dueWeighs(x, 2, 9, "rl.r", 277);
        dueWeighs(x, 3, 4, "rl.r", 21);
        dueWeighs(x, 3, 9, "....", -9);
        dueWeighs(x, 4, 2, "rl.r", 109);
        dueWeighs(x, 4, 0, "rl..", -1);
        dueWeighs(x, 5, 9, "rl.r", 25);
        dueWeighs(x, 5, 9, "rl.l", 29);
        dueWeighs(x, 6, 9, "rr.r", 15);
        dueWeighs(x, 6, 9, "r...", 0);
        dueWeighs(x, 7, 4, "rl.r", 22);
        dueWeighs(x, 7, 4, "r..r", 24);
        dueWeighs(x, 7, 4, "...l", -30);
        FourStones none = new FourStones();
        dueWeighs(none, 0, 0, "", 0);
        dueWeighs(none, 7, 9, "", -9);
    }

    private static void promise5WeighsRefusals() {
        FourStones x = Checks.four();
        dueWeighs(x, 1, 0, "rl", -1000000003);
        dueWeighs(x, 6, 0, "l", -1000000003);
        dueWeighs(x, 4, 0, "rrr", -1000000003);
        due("no such shelf", x.weighs(8, 0), -1000000001);
        due("shelf -1", x.weighs(-1, 0), -1000000001);
        due("no such lying", x.weighs(D, 81), -1000000001);
        due("lying -1", x.weighs(D, -1), -1000000001);
        due("no such lying, and nothing held", x.weighs(5, 81), -1000000001);
        due("nothing held", x.weighs(5, 0), -1000000011);
        x.row(5, 0, 1);
        due("a row", x.weighs(5, 0), -1000000012);
    }

    private static void promise6May() {
        FourStones x = Checks.four();
        int[] lyings = {0, Checks.lying("rrrr"), Checks.lying("rr.l"), Checks.lying("r.rr"), Checks.lying("l")};
        int[][] wants = {
            {1, 1, 1, 1, 1}, {1, 1, 0, 1, 0}, {1, 1, 1, 1, 1}, {1, 1, 1, 1, 1},
            {1, 0, 1, 0, 1}, {1, 1, 1, 1, 1}, {1, 1, 0, 1, 0}, {1, 1, 1, 1, 1},
        };
        for (int kind = 0; kind < 8; kind++) {
            x.keep(D, 1, kind, 1);
            for (int i = 0; i < lyings.length; i++) {
                due("kind " + kind + " may " + lyings[i], x.may(D, lyings[i]), wants[kind][i]);
            }
        }
        due("may: lying 81", x.may(D, 81), -1);
        due("may: lying -1", x.may(D, -1), -1);
        due("may: lying 81 on nothing", x.may(5, 81), -1);
    }

    private static void promise7Ways() {
        FourStones x = Checks.stones(10, 1, 10, 1);
        x.keep(D, 1, 0, 0);
        due("ways 0", x.ways(D, 0), 3);
        due("ways 10", x.ways(D, 10), 2);
        due("ways -20", x.ways(D, -20), 1);
        due("ways 15", x.ways(D, 15), 0);
        x.keep(D, 1, 5, 0);
        due("ways 10 signless", x.ways(D, 10), 4);
        x.keep(D, 1, 1, 0);
        due("ways 0 on ONE", x.ways(D, 0), 1);
        due("ways -10 on ONE", x.ways(D, -10), 0);
        x.keep(D, 1, 6, 0);
        due("ways 5 on HALF", x.ways(D, 5), 2);
        x.keep(D, 1, 3, 9);
        due("ways -29 on OFF", x.ways(D, -29), 1);
        due("ways 9999", x.ways(D, 9999), 0);
        due("ways -9999", x.ways(D, -9999), 0);
        due("ways 10000", x.ways(D, 10000), -1);
        due("ways -10000", x.ways(D, -10000), -1);
        due("ways 10000 on nothing", x.ways(5, 10000), -1);
    }

    private static void promise8First() {
        FourStones x = Checks.stones(1, 0, 2, 0, 3, 0);
        x.keep(D, 1, 0, 0);
        due("first 3 is both, not the third", x.first(D, 3), Checks.lying("rr."));
        due("first 0", x.first(D, 0), 0);
        due("first -1", x.first(D, -1), Checks.lying("l.."));
        due("first 6", x.first(D, 6), Checks.lying("rrr"));
        due("first 7", x.first(D, 7), -4);
        x.keep(D, 1, 4, 0);
        due("first 12 may not be on THREE", x.first(D, 12), -4);
        x.keep(D, 1, 7, 0);
        due("first -1 by a grain", x.first(D, -1), Checks.lying(".l"));
        due("first 9999", x.first(D, 9999), -4);
        x.keep(D, 1, 0, 0);
        Checks.read(x, "x;w1 9;");
        due("first 3 by a stone that is no more", x.first(D, 3), -4);
        due("ways of it", x.ways(D, 3), 0);
        due("lifts of it", x.lifts(D, 3, 1), -4);
        due("first 10000", x.first(D, 10000), -1);
        due("first -10000", x.first(D, -10000), -1);
        due("first 10000 on nothing", x.first(5, 10000), -1);
    }

    private static void promise9Lifts() {
        FourStones x = Checks.stones(1, 0, 2, 0, 3, 0, 3, 0);
        x.keep(D, 1, 0, 0);
        due("fewest lifts of 3", x.lifts(D, 3, 0), 1);
        due("of several the least", x.lifts(D, 3, 1), Checks.lying("..r."));
        due("fewest lifts of 4", x.lifts(D, 4, 0), 2);
        due("lying of 4", x.lifts(D, 4, 1), Checks.lying("r.r."));
        due("lifts of 0", x.lifts(D, 0, 0), 0);
        due("lying of 0", x.lifts(D, 0, 1), 0);
        due("lifts of 10", x.lifts(D, 10, 0), -4);
        due("lying of 10", x.lifts(D, 10, 1), -4);
        due("lifts: what 2", x.lifts(D, 3, 2), -1);
        due("lifts: what -1", x.lifts(D, 3, -1), -1);
        due("lifts of 10000", x.lifts(D, 10000, 0), -1);
        due("lifts of -10000", x.lifts(D, -10000, 0), -1);
        due("lifts of 9999", x.lifts(D, 9999, 0), -4);
        due("lifts: what 2 on nothing", x.lifts(5, 3, 2), -1);
    }

    private static void promise10And11ReachAndHole() {
        FourStones x = Checks.four();
        int[] reaches = {40, 1, 0, 38, 13, 40, 2, 2};
        for (int kind = 0; kind < 8; kind++) {
            x.keep(D, 1, kind, 2);
            due("reach, kind " + kind, x.reach(D), reaches[kind]);
            due("hole, kind " + kind, x.hole(D), reaches[kind] + 1);
        }
        FourStones gap = Checks.stones(1, 0, 5, 0);
        gap.keep(D, 1, 0, 0);
        due("reach up to the gap", gap.reach(D), 1);
        due("the gap", gap.hole(D), 2);
        FourStones six = Checks.stones(1, 0, 3, 0, 9, 0, 27, 0, 81, 0, 81, 0);
        six.keep(D, 1, 0, 0);
        due("reach of six stones", six.reach(D), 202);
        due("hole of six stones", six.hole(D), 203);
        FourStones far = Checks.stones(99, 0, 1, 0, 1, 0, 1, 0);
        far.keep(D, 1, 2, 9);
        due("999 and more can be had, not all ahead", far.reach(D), 0);
        due("its 999", far.first(D, 999), Checks.lying("rlr."));
        FourStones none = new FourStones();
        none.keep(D, 1, 0, 0);
        due("reach of none", none.reach(D), 0);
        due("hole of none", none.hole(D), 1);
    }

    private static void shelfRefusals() {
        FourStones x = Checks.four();
        x.row(6, 2, 3);
        int[] shelves = {-1, 8, 5, 6};
        int[] wants = {-1, -1, -11, -12};
        for (int i = 0; i < shelves.length; i++) {
            int d = shelves[i];
            due("may on shelf " + d, x.may(d, 0), wants[i]);
            due("ways on shelf " + d, x.ways(d, 0), wants[i]);
            due("first on shelf " + d, x.first(d, 0), wants[i]);
            due("lifts on shelf " + d, x.lifts(d, 0, 0), wants[i]);
            due("reach on shelf " + d, x.reach(d), wants[i]);
            due("hole on shelf " + d, x.hole(d), wants[i]);
        }
    }
}
