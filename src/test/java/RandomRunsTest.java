import java.util.Random;

/** Runs of 512 drawn calls on new objects: every answer is that of PlainStones, and nothing else is thrown. */
public final class RandomRunsTest {

    private static final int RUNS = 60;
    private static final int CALLS = 512;
    private static final int[] EDGES = {
        Integer.MIN_VALUE, Integer.MIN_VALUE + 1, -10000, -9999, -1000, -1, 0, 1, 2, 3, 6, 7, 8, 9, 10, 13, 14, 30, 31,
        63, 64, 80, 81, 99, 100, 101, 728, 729, 999, 1000, 9999, 10000, Integer.MAX_VALUE - 1, Integer.MAX_VALUE,
    };
    private static final String SIGNS = "swpx; 0123456789\u00fbA";

    private static final Checks CHECKS = new Checks("random runs");

    private final Random random;
    private final FourStones x = new FourStones();
    private final PlainStones y = new PlainStones();
    private int called;

    private RandomRunsTest(int seed) {
        random = new Random(seed);
    }

    public static void main(String[] args) {
        for (int seed = 0; seed < RUNS; seed++) {
            RandomRunsTest run = new RandomRunsTest(seed);
            while (run.called < CALLS) {
                run.step(seed);
            }
        }
        CHECKS.end();
    }

    private void step(int seed) {
        String before = "run " + seed + ", call " + called + ": ";
        try {
            call(before, random.nextInt(44));
        } catch (RuntimeException e) {
            CHECKS.holds(before + "threw " + e, false);
            called++;
        }
    }

    private void due(String call, long got, long want) {
        called++;
        CHECKS.due(call, got, want);
    }

    /** Mostly a number from the range, now and then one at or beyond some edge. */
    private int draw(int least, int most) {
        int drawn = random.nextInt(24);
        if (drawn == 0) {
            return EDGES[random.nextInt(EDGES.length)];
        }
        return drawn == 1 ? random.nextBoolean() ? least - 1 : most + 1 : least + random.nextInt(most - least + 1);
    }

    private int shelf() {
        return draw(0, 7);
    }

    private int lying() {
        return draw(0, Math.max(0, y.count(3) - 1));
    }

    private int stone() {
        return draw(0, Math.max(0, y.count(0) - 1));
    }

    private int weight() {
        return random.nextInt(3) == 0 ? draw(1, 12) : draw(-150, 150);
    }

    private void call(String at, int which) {
        int d = shelf();
        int e = shelf();
        int w = weight();
        int lying = lying();
        int stone = stone();
        int what = draw(0, 1);
        switch (which) {
            case 0 -> due(at + "shop " + d, x.shop(d), y.shop(d));
            case 1 -> due(at + "stone", x.stone(stone, what), y.stone(stone, what));
            case 2 -> {
                int about = draw(0, 3);
                due(at + "lying " + lying + " " + about, x.lying(lying, about), y.lying(lying, about));
            }
            case 3 -> due(at + "weighs " + d + " " + lying, x.weighs(d, lying), y.weighs(d, lying));
            case 4 -> due(at + "may " + d + " " + lying, x.may(d, lying), y.may(d, lying));
            case 5 -> due(at + "ways " + d + " " + w, x.ways(d, w), y.ways(d, w));
            case 6 -> due(at + "first " + d + " " + w, x.first(d, w), y.first(d, w));
            case 7 -> due(at + "lifts " + d + " " + w + " " + what, x.lifts(d, w, what), y.lifts(d, w, what));
            case 8 -> due(at + "reach " + d, x.reach(d), y.reach(d));
            case 9 -> due(at + "hole " + d, x.hole(d), y.hole(d));
            case 10, 11 -> choose(at, d, e);
            case 12 -> numbers(at);
            case 13 -> {
                int[] a = {draw(1, 3), draw(1, 30), draw(1, 13)};
                due(at + "sets " + a[0] + " " + a[1] + " " + a[2], x.sets(a[0], a[1], a[2], what), y.sets(a[0], a[1], a[2], what));
            }
            case 14 -> due(at + "lost " + d + " " + stone, x.lost(d, stone), y.lost(d, stone));
            case 15 -> due(at + "harmsLeast " + d, x.harmsLeast(d), y.harmsLeast(d));
            case 16 -> {
                int bits = draw(0, 63);
                due(at + "trials " + bits, x.trials(bits), y.trials(bits));
            }
            case 17 -> due(at + "found " + d, x.found(d), y.found(d));
            case 18 -> {
                int a = draw(0, 999);
                int b = draw(0, 999);
                due(at + "twice " + a + " " + b, x.twice(a, b, what), y.twice(a, b, what));
            }
            case 19 -> {
                int one = draw(1, 40);
                int other = draw(1, 40);
                int about = draw(0, 2);
                due(at + "customers " + one + " " + other, x.customers(one, other, about), y.customers(one, other, about));
            }
            case 20 -> due(at + "unknown " + stone + " " + d, x.unknown(stone, d, what), y.unknown(stone, d, what));
            case 21 -> {
                int n = draw(1, 6);
                int z = random.nextInt();
                due(at + "seeded " + d + " " + n + " " + z, x.seeded(d, n, z), y.seeded(d, n, z));
            }
            case 22 -> due(at + "judge " + d + " " + e, x.judge(d, e), y.judge(d, e));
            case 23 -> due(at + "image", x.image(), y.image());
            case 24 -> due(at + "restore", x.restore(), y.restore());
            case 25 -> {
                int about = draw(0, 3);
                due(at + "count " + about, x.count(about), y.count(about));
            }
            default -> shelves(at, which, d, e);
        }
    }

    private void choose(String at, int d, int e) {
        int there = random.nextInt(3) == 0 ? draw(0, 7) : 0;
        int what = draw(0, 1);
        due(at + "list " + d + " " + e, x.list(d, e), y.list(d, e));
        due(at + "cheapest " + d + " " + e + " " + there, x.cheapest(d, e, there, what), y.cheapest(d, e, there, what));
    }

    private void numbers(String at) {
        int n = draw(1, 9999);
        int z = draw(-9999, 9999);
        int a = draw(-9999, 9999);
        int i = draw(-1, 14);
        due(at + "threes " + n + " " + i, x.threes(n, i), y.threes(n, i));
        due(at + "doubles " + n + " " + i, x.doubles(n, i), y.doubles(n, i));
        due(at + "digits " + z + " " + i, x.digits(z, i), y.digits(z, i));
        due(at + "added " + z + " " + a, x.added(z, a), y.added(z, a));
    }

    private void shelves(String at, int which, int d, int e) {
        switch (which) {
            case 26, 27, 28 -> keep(at, d);
            case 29 -> {
                int sort = draw(0, 2);
                int n = draw(0, 100);
                due(at + "row " + d + " " + sort + " " + n, x.row(d, sort, n), y.row(d, sort, n));
            }
            case 30 -> put(at, d, draw(0, 8), random.nextInt(2) == 0 ? random.nextInt() : draw(0, 99));
            case 31 -> {
                int i = draw(0, 8);
                due(at + "element " + d + " " + i, element(d, i), y.element(d, i));
            }
            case 32, 33 -> {
                int i = draw(0, 5);
                int j = draw(0, 5);
                int n = draw(0, 5);
                int to = random.nextInt(3) == 0 ? d : e;
                due(at + "copy " + d + " " + i + " " + to + " " + j + " " + n, x.copy(d, i, to, j, n), y.copy(d, i, to, j, n));
            }
            case 34 -> due(at + "cost " + d, x.cost(d), y.cost(d));
            case 35 -> due(at + "toss " + d, x.toss(d), y.toss(d));
            case 36 -> readDrawn(at);
            case 37 -> chooseDrawn(at);
            case 38 -> foundDrawn(at);
            case 39 -> unknownDrawn(at);
            case 40 -> judgeDrawn(at);
            default -> readNewStones(at);
        }
    }

    private void keep(String at, int d) {
        int what = random.nextInt(5) == 0 ? draw(0, 1) : 1;
        int kind = draw(0, 7);
        int figure = draw(0, 9);
        due(at + "keep " + d + " " + what + " " + kind + " " + figure, x.keep(d, what, kind, figure), y.keep(d, what, kind, figure));
    }

    private void put(String at, int d, int i, int v) {
        due(at + "put " + d + " " + i + " " + v, x.put(d, i, v), y.put(d, i, v));
    }

    private void rowOf(String at, int d, int sort, int... cells) {
        due(at + "row " + d, x.row(d, sort, cells.length), y.row(d, sort, cells.length));
        for (int i = 0; i < cells.length; i++) {
            put(at, d, i, cells[i]);
        }
    }

    private long element(int d, int i) {
        try {
            return x.element(d, i);
        } catch (IllegalArgumentException e) {
            return Long.MIN_VALUE;
        } catch (IllegalStateException e) {
            return Long.MAX_VALUE;
        }
    }

    private void readText(String at, String text) {
        int d = random.nextInt(8);
        rowOf(at, d, 0, text.chars().toArray());
        due(at + "shop of '" + text + "'", x.shop(d), y.shop(d));
    }

    private void readNewStones(String at) {
        StringBuilder text = new StringBuilder();
        int most = random.nextInt(3) == 0 ? 99 : 12;
        for (int i = random.nextInt(3); i >= 0; i--) {
            text.append('s').append(1 + random.nextInt(most)).append(' ').append(random.nextInt(4) * 7).append(';');
        }
        readText(at, y.count(0) > 4 ? "x;x;" : text.toString());
    }

    private void readDrawn(String at) {
        StringBuilder text = new StringBuilder();
        for (int i = random.nextInt(4); i >= 0; i--) {
            switch (random.nextInt(5)) {
                case 0 -> text.append("x;");
                case 1 -> text.append('w').append(stone() & 7).append(' ').append(random.nextInt(100)).append(';');
                case 2 -> text.append('p').append(random.nextInt(10)).append(' ').append(random.nextInt(100)).append(';');
                default -> text.append('s').append(random.nextInt(105)).append(' ').append(random.nextInt(100)).append(';');
            }
        }
        if (random.nextInt(2) == 0) {
            int place = random.nextInt(text.length());
            char sign = SIGNS.charAt(random.nextInt(SIGNS.length()));
            switch (random.nextInt(4)) {
                case 0 -> text.setCharAt(place, sign);
                case 1 -> text.insert(place, sign);
                case 2 -> text.deleteCharAt(place);
                default -> text.setLength(place);
            }
        }
        readText(at, text.toString());
    }

    private void chooseDrawn(String at) {
        int d = random.nextInt(8);
        int e = random.nextInt(8);
        int[] wanted = new int[1 + random.nextInt(random.nextInt(5) == 0 ? 8 : 2)];
        for (int i = 0; i < wanted.length; i++) {
            wanted[i] = 1 + random.nextInt(12);
        }
        rowOf(at, e, 1, wanted);
        if (d != e) {
            due(at + "keep", x.keep(d, 1, which(d), e), y.keep(d, 1, which(d), e));
        }
        choose(at, d, e);
    }

    private static int which(int d) {
        return d % 4 == 0 ? 0 : d;
    }

    private void foundDrawn(String at) {
        int d = random.nextInt(8);
        int lying = random.nextInt(81);
        int other = random.nextInt(81);
        rowOf(at, d, 0, lying, random.nextInt(3), other, random.nextInt(10) == 0 ? 3 : random.nextInt(3));
        due(at + "found " + lying + " " + other, x.found(d), y.found(d));
    }

    private void unknownDrawn(String at) {
        int d = random.nextInt(8);
        int one = lying();
        int other = lying();
        int stone = stone();
        rowOf(at, d, 2, one, y.lying(one, 0) - y.lying(one, 1), other, y.lying(other, 0) - y.lying(other, 1) + random.nextInt(3) / 2);
        due(at + "unknown " + stone + " by " + one + " " + other, x.unknown(stone, d, 0), y.unknown(stone, d, 0));
        due(at + "unknown least", x.unknown(stone, d, 1), y.unknown(stone, d, 1));
    }

    private void judgeDrawn(String at) {
        int d = random.nextInt(8);
        int e = random.nextInt(8);
        keep(at, d);
        int[] told = new int[random.nextInt(7)];
        for (int i = 0; i < told.length; i += 2) {
            told[i] = lying();
            if (i + 1 < told.length) {
                told[i + 1] = y.weighs(d, told[i]) + random.nextInt(6) / 5;
            }
        }
        rowOf(at, e, 2, told);
        due(at + "judge " + d + " " + e, x.judge(d, e), y.judge(d, e));
    }
}
