import java.util.Arrays;

/** Stones, scales of kinds and what can be weighed with them, as shared/DOC.md promises it. */
public final class FourStones {

    private static final int MOST_STONES = 6;
    private static final int MOST_LYINGS = 729;
    private static final int MOST_SETS = 64;
    private static final int MOST_SHELVES = 8;
    private static final int MOST_ELEMENTS = 100;
    private static final int MOST_LISTED = 8;
    private static final int MOST_DIGITS = 10;
    private static final int HIGHEST_WEIGHT = 99;
    private static final int HIGHEST_PRICE = 99;
    private static final int HIGHEST_FIGURE = 9;
    private static final int HIGHEST_HAD = 999;
    private static final int HIGHEST_NUMBER = 9999;

    private static final int NO_SUCH = -1;
    private static final int NOT_NOW = -3;
    private static final int NONE = -4;
    private static final int NOTHING_HELD = -11;
    private static final int OTHER_KIND = -12;
    private static final int NO_PLACE = -13;
    private static final int SIZE_BELOW_ZERO = -14;
    private static final int NO_FAILURE = -15;

    /** Keeps refusals apart from answers that may be below 0 themselves. */
    private static final int FAR_BELOW = -1000000000;

    private static final int SCALE = 0;
    private static final int ONE = 1;
    private static final int ARMS = 2;
    private static final int OFF = 3;
    private static final int THREE = 4;
    private static final int SIGNLESS = 5;
    private static final int HALF = 6;
    private static final int GRAIN = 7;

    private static final int BYTES = 0;
    private static final int SHORTS = 1;
    private static final int INTS = 2;

    private static final int WITHOUT_SIGN = 0x7fffffff;

    private static final int STONES_FOUND_AMONG = 4;
    private static final int LYINGS_FOUND_AMONG = 81;

    private final Stones stones = new Stones();
    private final Lyings lyings = new Lyings();
    private final Stones imaged = new Stones();
    private boolean hasImage;

    private final Stones mindStones = new Stones();
    private final Lyings mindLyings = new Lyings();

    private final Scale[] scales = new Scale[MOST_SHELVES];
    private final Row[] rows = new Row[MOST_SHELVES];

    private final Scale plainScale = new Scale(SCALE, 0);
    private final ShopReader reader = new ShopReader();

    /* Rows for one call's work: made here once, since nothing that is made is ever given back. */
    private final int[] had = new int[HIGHEST_HAD + 1];
    private final int[] listedBy = new int[MOST_SETS];
    private final int[] otherLyings = new int[MOST_LYINGS];

    public FourStones() {
    }

    // ---- shops

    public int shop(int d) {
        if (!isShelf(d)) {
            return NO_SUCH;
        }
        Row text = rowOfSort(d, BYTES);
        if (text == null) {
            return notHeld(d);
        }
        int answer = reader.read(text, stones);
        lyings.layOut(stones);
        return answer;
    }

    public int stone(int stone, int what) {
        if (!stones.isStone(stone) || what < 0 || what > 1) {
            return NO_SUCH;
        }
        return what == 0 ? stones.weights[stone] : stones.prices[stone];
    }

    public int lying(int lying, int what) {
        if (!lyings.isLying(lying)) {
            return NO_SUCH;
        }
        switch (what) {
            case 0:
                return lyings.right[lying];
            case 1:
                return lyings.left[lying];
            case 2:
                return lyings.liftsOf(lying);
            case 3:
                return stones.pricesOf(lyings.notOff(lying));
            default:
                return NO_SUCH;
        }
    }

    // ---- scales

    public int weighs(int d, int lying) {
        if (!isShelf(d) || !lyings.isLying(lying)) {
            return FAR_BELOW + NO_SUCH;
        }
        Scale scale = scales[d];
        if (scale == null) {
            return FAR_BELOW + notHeld(d);
        }
        return scale.allows(lyings, lying) ? scale.weightOf(lyings, lying) : FAR_BELOW + NOT_NOW;
    }

    public int may(int d, int lying) {
        if (!isShelf(d) || !lyings.isLying(lying)) {
            return NO_SUCH;
        }
        Scale scale = scales[d];
        if (scale == null) {
            return notHeld(d);
        }
        return scale.allows(lyings, lying) ? 1 : 0;
    }

    public int ways(int d, int weight) {
        if (!isShelf(d) || !isNumber(weight)) {
            return NO_SUCH;
        }
        Scale scale = scales[d];
        if (scale == null) {
            return notHeld(d);
        }
        int ways = 0;
        for (int lying = 0; lying < lyings.count; lying++) {
            if (scale.hits(lyings, lying, weight)) {
                ways++;
            }
        }
        return ways;
    }

    public int first(int d, int weight) {
        if (!isShelf(d) || !isNumber(weight)) {
            return NO_SUCH;
        }
        Scale scale = scales[d];
        if (scale == null) {
            return notHeld(d);
        }
        for (int lying = 0; lying < lyings.count; lying++) {
            if (scale.hits(lyings, lying, weight)) {
                return lying;
            }
        }
        return NONE;
    }

    public int lifts(int d, int weight, int what) {
        if (!isShelf(d) || !isNumber(weight) || what < 0 || what > 1) {
            return NO_SUCH;
        }
        Scale scale = scales[d];
        if (scale == null) {
            return notHeld(d);
        }
        int least = leastLifted(scale, weight);
        return least < 0 || what == 1 ? least : lyings.liftsOf(least);
    }

    public int reach(int d) {
        if (!isShelf(d)) {
            return NO_SUCH;
        }
        Scale scale = scales[d];
        if (scale == null) {
            return notHeld(d);
        }
        return firstNotHad(scale, lyings) - 1;
    }

    public int hole(int d) {
        if (!isShelf(d)) {
            return NO_SUCH;
        }
        Scale scale = scales[d];
        if (scale == null) {
            return notHeld(d);
        }
        int missing = firstNotHad(scale, lyings);
        return missing <= HIGHEST_HAD ? missing : NONE;
    }

    // ---- lists

    public int list(int d, int e) {
        if (!isShelf(d) || !isShelf(e)) {
            return NO_SUCH;
        }
        return bestSet(d, e, 0, true);
    }

    public int cheapest(int d, int e, int there, int what) {
        if (!isShelf(d) || !isShelf(e) || !stones.areStones(there) || what < 0 || what > 1) {
            return NO_SUCH;
        }
        int set = bestSet(d, e, there, false);
        return set < 0 || what == 0 ? set : stones.pricesOf(set & ~there);
    }

    // ---- threes, doubles, digits

    public int threes(int n, int i) {
        return ofSeries(3, n, i);
    }

    public int doubles(int n, int i) {
        return ofSeries(2, n, i);
    }

    public int digits(int n, int i) {
        if (!isNumber(n) || i < -1) {
            return NO_SUCH;
        }
        int rest = n;
        int place = 0;
        while (rest != 0 && place != i && place < MOST_DIGITS) {
            rest = withoutLowest(rest);
            place++;
        }
        return i == -1 ? place : Math.floorMod(lowestDigit(rest), 3);
    }

    public int added(int a, int b) {
        if (!isNumber(a) || !isNumber(b)) {
            return NO_SUCH;
        }
        int restA = a;
        int restB = b;
        int carried = 0;
        int carryings = 0;
        for (int column = 0; column < MOST_DIGITS; column++) {
            int sum = lowestDigit(restA) + lowestDigit(restB) + carried;
            carried = withoutLowest(sum);
            if (carried != 0) {
                carryings++;
            }
            restA = withoutLowest(restA);
            restB = withoutLowest(restB);
        }
        return carryings;
    }

    public int sets(int k, int m, int n, int what) {
        if (k < 1 || k > 3 || m < 1 || m > 30 || n < 1 || n > 13 || what < 0 || what > 1) {
            return NO_SUCH;
        }
        return searchSets(k, m, n, what == 1);
    }

    // ---- lost, false, off

    public int lost(int d, int stone) {
        if (!isShelf(d) || !stones.isStone(stone)) {
            return NO_SUCH;
        }
        Scale scale = scales[d];
        if (scale == null) {
            return notHeld(d);
        }
        return lostWithout(scale, stone, firstNotHad(scale, lyings) - 1);
    }

    public int harmsLeast(int d) {
        if (!isShelf(d)) {
            return NO_SUCH;
        }
        Scale scale = scales[d];
        if (scale == null) {
            return notHeld(d);
        }
        int reach = firstNotHad(scale, lyings) - 1;
        int best = NONE;
        int leastLost = 0;
        for (int stone = 0; stone < stones.count; stone++) {
            int lost = lostWithout(scale, stone, reach);
            if (best < 0 || lost < leastLost) {
                best = stone;
                leastLost = lost;
            }
        }
        return best;
    }

    public int trials(int stones) {
        int told = Integer.bitCount(stones);
        if (!this.stones.areStones(stones) || told < 2) {
            return NO_SUCH;
        }
        int trials = 0;
        for (int toldApart = 1; toldApart < told; toldApart *= 3) {
            trials++;
        }
        return trials;
    }

    public int found(int d) {
        if (!isShelf(d)) {
            return NO_SUCH;
        }
        Row told = rowOfSort(d, BYTES);
        if (told == null) {
            return notHeld(d);
        }
        if (!areTrials(told)) {
            return NO_PLACE;
        }
        int found = 0;
        for (int stone = 0; stone < STONES_FOUND_AMONG; stone++) {
            if (isLighterBy(told, stone)) {
                found |= 1 << stone;
            }
        }
        return found;
    }

    public int twice(int a, int b, int what) {
        int below = what == 1 ? FAR_BELOW : 0;
        if (a < 0 || a > HIGHEST_HAD || b < 0 || b > HIGHEST_HAD || what < 0 || what > 1) {
            return below + NO_SUCH;
        }
        if ((a + b) % 2 != 0) {
            return below + NONE;
        }
        int trueWeight = (a + b) / 2;
        return what == 0 ? trueWeight : a - trueWeight;
    }

    public int customers(int one, int other, int what) {
        if (!canBeHad(one) || !canBeHad(other) || what < 0 || what > 2) {
            return NO_SUCH;
        }
        int others = collectOtherLyings(other);
        int pairs = 0;
        for (int lying = 0; lying < lyings.count; lying++) {
            if (!plainScale.hits(lyings, lying, one)) {
                continue;
            }
            for (int i = 0; i < others; i++) {
                if ((lyings.notOff(lying) & lyings.notOff(otherLyings[i])) != 0) {
                    continue;
                }
                if (what > 0) {
                    return what == 1 ? lying : otherLyings[i];
                }
                pairs++;
            }
        }
        return what == 0 ? pairs : NONE;
    }

    public int unknown(int stone, int d, int what) {
        if (!stones.isStone(stone) || !isShelf(d) || what < 0 || what > 1) {
            return NO_SUCH;
        }
        Row weighed = rowOfSort(d, INTS);
        if (weighed == null) {
            return notHeld(d);
        }
        if (!areWeighings(weighed)) {
            return NO_PLACE;
        }
        int fitting = 0;
        for (int weight = 1; weight <= HIGHEST_WEIGHT; weight++) {
            if (isWeightBy(weighed, stone, weight)) {
                if (what == 1) {
                    return weight;
                }
                fitting++;
            }
        }
        return what == 0 ? fitting : NONE;
    }

    public int seeded(int d, int n, int z) {
        if (!isShelf(d) || n < 1 || n > MOST_STONES) {
            return NO_SUCH;
        }
        Scale scale = scales[d];
        if (scale == null) {
            return notHeld(d);
        }
        mindStones.count = 0;
        int seed = z;
        for (int i = 0; i < n; i++) {
            seed = seed * 1103515245 + 12345;
            mindStones.add(1 + (seed & WITHOUT_SIGN) / 65536 % 40, 0);
        }
        mindLyings.layOut(mindStones);
        return firstNotHad(scale, mindLyings) - 1;
    }

    public int judge(int d, int e) {
        if (!isShelf(d) || !isShelf(e)) {
            return NO_SUCH;
        }
        Scale scale = scales[d];
        if (scale == null) {
            return notHeld(d);
        }
        Row told = rows[e];
        if (told == null) {
            return notHeld(e);
        }
        int size = told.cells.length;
        for (int i = 0; i + 1 < size; i += 2) {
            int lying = told.cells[i];
            if (!lyings.isLying(lying) || !scale.hits(lyings, lying, told.cells[i + 1])) {
                return i;
            }
        }
        return size % 2 == 1 ? size : NONE;
    }

    // ---- the image, what is told

    public int image() {
        imaged.takeFrom(stones);
        hasImage = true;
        return stones.count;
    }

    public int restore() {
        if (!hasImage) {
            return NOT_NOW;
        }
        stones.takeFrom(imaged);
        lyings.layOut(stones);
        return stones.count;
    }

    public int count(int what) {
        switch (what) {
            case 0:
                return stones.count;
            case 1:
                return stones.weightsOf(stones.all());
            case 2:
                return stones.pricesOf(stones.all());
            case 3:
                return lyings.count;
            default:
                return NO_SUCH;
        }
    }

    // ---- shelves

    public int keep(int d, int what, int k, int figure) {
        if (!isShelf(d) || what < 0 || what > 1) {
            return NO_SUCH;
        }
        if (what == 1 && (k < SCALE || k > GRAIN || figure < 0 || figure > HIGHEST_FIGURE)) {
            return NO_SUCH;
        }
        scales[d] = what == 1 ? new Scale(k, figure) : null;
        rows[d] = null;
        return 0;
    }

    public int row(int d, int sort, int n) {
        if (!isShelf(d) || sort < BYTES || sort > INTS || n > MOST_ELEMENTS) {
            return NO_SUCH;
        }
        if (n < 0) {
            return SIZE_BELOW_ZERO;
        }
        scales[d] = null;
        rows[d] = new Row(sort, n);
        return 0;
    }

    public int put(int d, int i, int v) {
        if (!isShelf(d)) {
            return NO_SUCH;
        }
        Row row = rows[d];
        if (row == null) {
            return notHeld(d);
        }
        if (!row.isPlace(i)) {
            return NO_PLACE;
        }
        row.cells[i] = row.lowestBits(v);
        return 0;
    }

    public long element(int d, int i) throws IllegalArgumentException, IllegalStateException {
        if (!isShelf(d)) {
            throw new IllegalArgumentException("no such shelf");
        }
        Row row = rows[d];
        if (row == null || !row.isPlace(i)) {
            throw new IllegalStateException("no row, or no such place");
        }
        return row.cells[i];
    }

    public int copy(int d, int i, int e, int j, int n) {
        if (!isShelf(d) || !isShelf(e)) {
            return NO_SUCH;
        }
        if (holdsNothing(d) || holdsNothing(e)) {
            return NOTHING_HELD;
        }
        Row from = rows[d];
        Row to = rows[e];
        if (from == null || to == null || from.sort != to.sort) {
            return OTHER_KIND;
        }
        if (!from.isStretch(i, n) || !to.isStretch(j, n)) {
            return NO_PLACE;
        }
        System.arraycopy(from.cells, i, to.cells, j, n);
        return n;
    }

    public int cost(int d) {
        if (!isShelf(d)) {
            return NO_SUCH;
        }
        Scale scale = scales[d];
        return scale == null ? notHeld(d) : scale.price();
    }

    public int toss(int d) {
        if (!isShelf(d)) {
            return NO_SUCH;
        }
        Scale scale = scales[d];
        if (scale == null) {
            return notHeld(d);
        }
        try {
            scale.fail();
            return NO_FAILURE;
        } catch (UnsupportedOperationException ofGrain) {
            return 200 + scale.price();
        } catch (IllegalArgumentException ofHalf) {
            return 100 + scale.figure;
        } catch (IllegalStateException ofOthers) {
            return scale.figure;
        }
    }

    // ---- what is on a shelf, what is a number

    private static boolean isShelf(int d) {
        return d >= 0 && d < MOST_SHELVES;
    }

    private boolean holdsNothing(int d) {
        return scales[d] == null && rows[d] == null;
    }

    /** The refusal for a shelf that does not hold what is wanted there. */
    private int notHeld(int d) {
        return holdsNothing(d) ? NOTHING_HELD : OTHER_KIND;
    }

    private Row rowOfSort(int d, int sort) {
        Row row = rows[d];
        return row != null && row.sort == sort ? row : null;
    }

    private static boolean isNumber(int n) {
        return n >= -HIGHEST_NUMBER && n <= HIGHEST_NUMBER;
    }

    private static boolean canBeHad(int weight) {
        return weight >= 1 && weight <= HIGHEST_HAD;
    }

    // ---- what can be had

    private int leastLifted(Scale scale, int weight) {
        int best = NONE;
        int fewest = 0;
        for (int lying = 0; lying < lyings.count; lying++) {
            if (scale.hits(lyings, lying, weight)) {
                int lifts = lyings.liftsOf(lying);
                if (best < 0 || lifts < fewest) {
                    best = lying;
                    fewest = lifts;
                }
            }
        }
        return best;
    }

    /** Marks the weights that can be had while the stones of the bits stay off. */
    private void markHad(Scale scale, Lyings all, int without) {
        Arrays.fill(had, 0);
        for (int lying = 0; lying < all.count; lying++) {
            if ((all.notOff(lying) & without) == 0 && scale.allows(all, lying)) {
                int weight = scale.weightOf(all, lying);
                if (canBeHad(weight)) {
                    had[weight] = 1;
                }
            }
        }
    }

    private int firstNotHad(Scale scale, Lyings all) {
        markHad(scale, all, 0);
        int weight = 1;
        while (weight <= HIGHEST_HAD && had[weight] == 1) {
            weight++;
        }
        return weight;
    }

    private int lostWithout(Scale scale, int stone, int reach) {
        markHad(scale, lyings, 1 << stone);
        int lost = 0;
        for (int weight = 1; weight <= reach; weight++) {
            if (had[weight] == 0) {
                lost++;
            }
        }
        return lost;
    }

    private int collectOtherLyings(int weight) {
        int others = 0;
        for (int lying = 0; lying < lyings.count; lying++) {
            if (plainScale.hits(lyings, lying, weight)) {
                otherLyings[others] = lying;
                others++;
            }
        }
        return others;
    }

    // ---- sets of stones for a list

    /** The best set by which the list is had; of several equally good ones the first has the least bits. */
    private int bestSet(int d, int e, int there, boolean fewestFirst) {
        Scale scale = scales[d];
        if (scale == null) {
            return notHeld(d);
        }
        Row wanted = rowOfSort(e, SHORTS);
        if (wanted == null) {
            return notHeld(e);
        }
        if (!isList(wanted)) {
            return NO_PLACE;
        }
        markListed(scale, wanted);
        int all = (1 << wanted.cells.length) - 1;
        int best = NONE;
        int leastRank = 0;
        for (int set = 0; set <= stones.all(); set++) {
            if ((set & there) == there && listedWithin(set) == all) {
                int rank = rankOf(set, there, fewestFirst);
                if (best < 0 || rank < leastRank) {
                    best = set;
                    leastRank = rank;
                }
            }
        }
        return best;
    }

    private static boolean isList(Row wanted) {
        int size = wanted.cells.length;
        if (size < 1 || size > MOST_LISTED) {
            return false;
        }
        for (int i = 0; i < size; i++) {
            if (!canBeHad(wanted.cells[i])) {
                return false;
            }
        }
        return true;
    }

    /** Puts by each set of stones which places of the list are had by lyings of just these. */
    private void markListed(Scale scale, Row wanted) {
        Arrays.fill(listedBy, 0);
        for (int lying = 0; lying < lyings.count; lying++) {
            if (scale.allows(lyings, lying)) {
                int places = wanted.placesOf(scale.weightOf(lyings, lying));
                listedBy[lyings.notOff(lying)] |= places;
            }
        }
    }

    private int listedWithin(int set) {
        int places = 0;
        for (int part = 0; part <= set; part++) {
            if ((part & ~set) == 0) {
                places |= listedBy[part];
            }
        }
        return places;
    }

    /** Two measures in one number: the second one is always below 1000. */
    private int rankOf(int set, int there, boolean fewestFirst) {
        int fewness = Integer.bitCount(set);
        int price = stones.pricesOf(set & ~there);
        return fewestFirst ? fewness * 1000 + price : price * 1000 + fewness;
    }

    // ---- threes, doubles and digits

    /** Of the stones 1, base, base times base, ..: what they reach is what they are together. */
    private static int ofSeries(int base, int n, int i) {
        if (n < 1 || n > HIGHEST_NUMBER || i < -1) {
            return NO_SUCH;
        }
        int stone = 1;
        int together = 1;
        int last = 0;
        while (together < n && last != i) {
            stone *= base;
            together += stone;
            last++;
        }
        if (i == -1) {
            return last + 1;
        }
        return last == i ? stone : NONE;
    }

    private static int lowestDigit(int n) {
        return Math.floorMod(n + 1, 3) - 1;
    }

    private static int withoutLowest(int n) {
        return Math.floorDiv(n + 1, 3);
    }

    // ---- sets by which all is had

    /** A smaller set is a set of three with weights 0 ahead: these weigh nothing and tell nothing. */
    private static int searchSets(int k, int m, int n, boolean firstAlone) {
        int count = 0;
        int leastTo = k == 3 ? m : 0;
        int middleTo = k >= 2 ? m : 0;
        for (int least = k == 3 ? 1 : 0; least <= leastTo; least++) {
            for (int middle = k >= 2 ? least + 1 : 0; middle <= middleTo; middle++) {
                for (int greatest = middle + 1; greatest <= m; greatest++) {
                    if (!haveAll(least, middle, greatest, n)) {
                        continue;
                    }
                    if (firstAlone) {
                        return least * 10000 + middle * 100 + greatest;
                    }
                    count++;
                }
            }
        }
        return firstAlone ? NONE : count;
    }

    /** Bit w of byTwo: w is had by the lesser two; the greatest is then off, right or left. */
    private static boolean haveAll(int least, int middle, int greatest, int n) {
        long byTwo = 1L | 1L << least | 1L << middle | 1L << (middle - least) | 1L << (middle + least);
        for (int weight = 1; weight <= n; weight++) {
            long ways = byTwo >> weight
                    | byTwo >> Math.abs(weight - greatest)
                    | byTwo >> (weight + greatest);
            if ((ways & 1L) == 0) {
                return false;
            }
        }
        return true;
    }

    // ---- what told weighings leave open

    private static boolean areTrials(Row told) {
        int size = told.cells.length;
        if (size % 2 != 0) {
            return false;
        }
        for (int i = 0; i + 1 < size; i += 2) {
            int lying = told.cells[i];
            int tooLight = told.cells[i + 1];
            if (lying < 0 || lying >= LYINGS_FOUND_AMONG || tooLight < 0 || tooLight > 2) {
                return false;
            }
        }
        return true;
    }

    /** The pan in which a lighter stone lies is the one that is too light. */
    private static boolean isLighterBy(Row told, int stone) {
        int size = told.cells.length;
        for (int i = 0; i + 1 < size; i += 2) {
            int pan = told.cells[i];
            for (int below = 0; below < stone; below++) {
                pan /= 3;
            }
            if (pan % 3 != told.cells[i + 1]) {
                return false;
            }
        }
        return true;
    }

    private boolean areWeighings(Row weighed) {
        int size = weighed.cells.length;
        if (size % 2 != 0) {
            return false;
        }
        for (int i = 0; i + 1 < size; i += 2) {
            if (!lyings.isLying(weighed.cells[i])) {
                return false;
            }
        }
        return true;
    }

    private boolean isWeightBy(Row weighed, int stone, int weight) {
        int more = weight - stones.weights[stone];
        int size = weighed.cells.length;
        for (int i = 0; i + 1 < size; i += 2) {
            int lying = weighed.cells[i];
            int side = lyings.sideOf(lying, stone);
            if (plainScale.weightOf(lyings, lying) + side * more != weighed.cells[i + 1]) {
                return false;
            }
        }
        return true;
    }

    /** The stones of a shop, in the order in which they came. */
    private static final class Stones {

        final int[] weights = new int[MOST_STONES];
        final int[] prices = new int[MOST_STONES];
        int count;

        boolean isStone(int stone) {
            return stone >= 0 && stone < count;
        }

        boolean areStones(int bits) {
            return bits >= 0 && bits <= all();
        }

        int all() {
            return (1 << count) - 1;
        }

        int weightsOf(int bits) {
            return sumOf(weights, bits);
        }

        int pricesOf(int bits) {
            return sumOf(prices, bits);
        }

        private int sumOf(int[] figures, int bits) {
            int sum = 0;
            for (int stone = 0; stone < count; stone++) {
                if ((bits >> stone & 1) == 1) {
                    sum += figures[stone];
                }
            }
            return sum;
        }

        boolean add(int weight, int price) {
            if (count >= MOST_STONES || !isWeight(weight) || !isPrice(price)) {
                return false;
            }
            weights[count] = weight;
            prices[count] = price;
            count++;
            return true;
        }

        boolean weighAnew(int stone, int weight) {
            if (!isStone(stone) || !isWeight(weight)) {
                return false;
            }
            weights[stone] = weight;
            return true;
        }

        boolean priceAnew(int stone, int price) {
            if (!isStone(stone) || !isPrice(price)) {
                return false;
            }
            prices[stone] = price;
            return true;
        }

        boolean dropLatest() {
            if (count == 0) {
                return false;
            }
            count--;
            return true;
        }

        void takeFrom(Stones other) {
            System.arraycopy(other.weights, 0, weights, 0, MOST_STONES);
            System.arraycopy(other.prices, 0, prices, 0, MOST_STONES);
            count = other.count;
        }

        private static boolean isWeight(int weight) {
            return weight >= 1 && weight <= HIGHEST_WEIGHT;
        }

        private static boolean isPrice(int price) {
            return price >= 0 && price <= HIGHEST_PRICE;
        }
    }

    /** All lyings of some stones, laid out once so that no call needs to take them apart. */
    private static final class Lyings {

        final int[] right = new int[MOST_LYINGS];
        final int[] left = new int[MOST_LYINGS];
        final int[] rightStones = new int[MOST_LYINGS];
        final int[] leftStones = new int[MOST_LYINGS];
        int count = 1;

        /** Lying 0 is all off; each stone in turn adds all that is there with it right, then with it left. */
        void layOut(Stones stones) {
            count = 1;
            for (int stone = 0; stone < stones.count; stone++) {
                for (int lying = 0; lying < count; lying++) {
                    layRight(count + lying, lying, stone, stones.weights[stone]);
                    layLeft(2 * count + lying, lying, stone, stones.weights[stone]);
                }
                count *= 3;
            }
        }

        private void layRight(int lying, int without, int stone, int weight) {
            right[lying] = right[without] + weight;
            left[lying] = left[without];
            rightStones[lying] = rightStones[without] | 1 << stone;
            leftStones[lying] = leftStones[without];
        }

        private void layLeft(int lying, int without, int stone, int weight) {
            right[lying] = right[without];
            left[lying] = left[without] + weight;
            rightStones[lying] = rightStones[without];
            leftStones[lying] = leftStones[without] | 1 << stone;
        }

        boolean isLying(int lying) {
            return lying >= 0 && lying < count;
        }

        int notOff(int lying) {
            return rightStones[lying] | leftStones[lying];
        }

        int liftsOf(int lying) {
            return Integer.bitCount(notOff(lying));
        }

        /** 1 where the stone lies right, -1 where it lies left, 0 where it is off. */
        int sideOf(int lying, int stone) {
            return (rightStones[lying] >> stone & 1) - (leftStones[lying] >> stone & 1);
        }
    }

    private static final class Scale {

        final int kind;
        final int figure;

        Scale(int kind, int figure) {
            this.kind = kind;
            this.figure = figure;
        }

        boolean hits(Lyings lyings, int lying, int weight) {
            return allows(lyings, lying) && weightOf(lyings, lying) == weight;
        }

        boolean allows(Lyings lyings, int lying) {
            switch (kind) {
                case ONE:
                case HALF:
                    return lyings.leftStones[lying] == 0;
                case THREE:
                    return Integer.bitCount(lyings.rightStones[lying]) <= 2;
                default:
                    return true;
            }
        }

        int weightOf(Lyings lyings, int lying) {
            int right = lyings.right[lying];
            int left = lyings.left[lying];
            int plain = right - left;
            int byArms = (figure + 1) * right - left;
            switch (kind) {
                case ARMS:
                    return byArms;
                case OFF:
                    return plain - figure;
                case THREE:
                    return byArms + right;
                case SIGNLESS:
                    return Math.abs(plain);
                case HALF:
                    return plain / 2;
                case GRAIN:
                    return plain - figure + (lyings.leftStones[lying] == 0 ? 0 : 1);
                default:
                    return plain;
            }
        }

        int price() {
            int plain = 5;
            int ofOne = plain - 1;
            int ofArms = plain * (figure + 1);
            int ofOff = plain - figure;
            switch (kind) {
                case ONE:
                    return ofOne;
                case ARMS:
                    return ofArms;
                case OFF:
                    return ofOff;
                case THREE:
                    return ofArms + 4;
                case SIGNLESS:
                    return 2 * plain;
                case HALF:
                    return ofOne + figure;
                case GRAIN:
                    return ofOff + 7;
                default:
                    return plain;
            }
        }

        /** Throws this scale's failure, if it has one: the class of it tells whose it is. */
        void fail() {
            if (kind == SIGNLESS || figure == 0) {
                return;
            }
            if (kind == GRAIN) {
                throw new UnsupportedOperationException();
            }
            if (kind == HALF) {
                throw new IllegalArgumentException();
            }
            throw new IllegalStateException();
        }
    }

    private static final class Row {

        final int sort;
        final int[] cells;

        Row(int sort, int size) {
            this.sort = sort;
            this.cells = new int[size];
        }

        boolean isPlace(int i) {
            return i >= 0 && i < cells.length;
        }

        /** Tells by what is left behind the start, since start and size together may overflow. */
        boolean isStretch(int from, int size) {
            return from >= 0 && from <= cells.length && size >= 0 && size <= cells.length - from;
        }

        int lowestBits(int v) {
            switch (sort) {
                case BYTES:
                    return (byte) v;
                case SHORTS:
                    return (short) v;
                default:
                    return v;
            }
        }

        /** The places (bits) at which a number stands; rows that are asked this have at most 8. */
        int placesOf(int number) {
            int places = 0;
            for (int i = 0; i < cells.length; i++) {
                if (cells[i] == number) {
                    places |= 1 << i;
                }
            }
            return places;
        }
    }

    /** Reads a shop's text on stones of its own, so that a fault leaves the shop as it was. */
    private static final class ShopReader {

        private final Stones trial = new Stones();
        private int at;
        private int undone;

        int read(Row text, Stones stones) {
            trial.takeFrom(stones);
            at = 0;
            undone = -1;
            int statements = 0;
            do {
                if (!readStatement(text)) {
                    return -1000 - at;
                }
                statements++;
            } while (at < text.cells.length && statements < MOST_ELEMENTS);
            if (undone >= 0) {
                return -2000 - undone;
            }
            stones.takeFrom(trial);
            return statements;
        }

        /** False with the place of the wrong byte in at. Reads on behind a statement that can't be done. */
        private boolean readStatement(Row text) {
            int start = at;
            int letter = readLetter(text);
            int one = 0;
            int other = 0;
            if (letter < 0) {
                return false;
            }
            if (letter != 'x') {
                one = letter == 's' ? readNumber(text) : readDigit(text);
                if (one < 0 || !readSign(text, ' ')) {
                    return false;
                }
                other = readNumber(text);
            }
            if (other < 0 || !readSign(text, ';')) {
                return false;
            }
            if (undone < 0 && !isDone(letter, one, other)) {
                undone = start;
            }
            return true;
        }

        private boolean isDone(int letter, int one, int other) {
            switch (letter) {
                case 's':
                    return trial.add(one, other);
                case 'w':
                    return trial.weighAnew(one, other);
                case 'p':
                    return trial.priceAnew(one, other);
                default:
                    return trial.dropLatest();
            }
        }

        private int readLetter(Row text) {
            if (!text.isPlace(at)) {
                return -1;
            }
            int letter = text.cells[at];
            if (letter != 's' && letter != 'w' && letter != 'p' && letter != 'x') {
                return -1;
            }
            at++;
            return letter;
        }

        private boolean readSign(Row text, char sign) {
            if (!text.isPlace(at) || text.cells[at] != sign) {
                return false;
            }
            at++;
            return true;
        }

        /** -1 where no number stands. A 0 ends it: nothing may stand behind a 0 that is ahead. */
        private int readNumber(Row text) {
            int first = readDigit(text);
            if (first <= 0) {
                return first;
            }
            int second = readDigit(text);
            return second < 0 ? first : 10 * first + second;
        }

        private int readDigit(Row text) {
            if (!text.isPlace(at) || text.cells[at] < '0' || text.cells[at] > '9') {
                return -1;
            }
            int digit = text.cells[at] - '0';
            at++;
            return digit;
        }
    }
}
