import java.util.ArrayList;
import java.util.Collections;
import java.util.HashSet;
import java.util.List;
import java.util.Set;
import java.util.regex.Matcher;
import java.util.regex.Pattern;

/** The document once more, by brute force and with the whole Java library: RandomRunsTest compares with it. */
final class PlainStones {

    private static final Pattern SHOP = Pattern.compile(
        "(?:s(?:0|[1-9][0-9]?) (?:0|[1-9][0-9]?);|[wp][0-9] (?:0|[1-9][0-9]?);|x;)+");

    private record Stone(int weight, int price) { }

    /** One lying, taken apart: of each stone 0 off, 1 right, 2 left. */
    private record Lying(int[] sides, List<Stone> shop) {
        int together(int side) {
            int sum = 0;
            for (int i = 0; i < sides.length; i++) {
                sum += sides[i] == side ? shop.get(i).weight() : 0;
            }
            return sum;
        }

        int howMany(int side) {
            int many = 0;
            for (int s : sides) {
                many += s == side ? 1 : 0;
            }
            return many;
        }

        int lifts() {
            return howMany(1) + howMany(2);
        }

        int prices() {
            int sum = 0;
            for (int i = 0; i < sides.length; i++) {
                sum += sides[i] != 0 ? shop.get(i).price() : 0;
            }
            return sum;
        }

        int bits() {
            int bits = 0;
            for (int i = 0; i < sides.length; i++) {
                bits += sides[i] != 0 ? 1 << i : 0;
            }
            return bits;
        }
    }

    private static class Scale {
        final int figure;

        Scale(int figure) {
            this.figure = figure;
        }

        static Scale of(int kind, int figure) {
            return switch (kind) {
                case 0 -> new Scale(figure);
                case 1 -> new One(figure);
                case 2 -> new Arms(figure);
                case 3 -> new Off(figure);
                case 4 -> new Three(figure);
                case 5 -> new Signless(figure);
                case 6 -> new Half(figure);
                default -> new Grain(figure);
            };
        }

        int weighs(Lying l) {
            return l.together(1) - l.together(2);
        }

        boolean may(Lying l) {
            return true;
        }

        int cost() {
            return 5;
        }

        int tossed() {
            return figure == 0 ? -15 : figure;
        }
    }

    private static class One extends Scale {
        One(int figure) {
            super(figure);
        }

        @Override boolean may(Lying l) {
            return l.howMany(2) == 0;
        }

        @Override int cost() {
            return super.cost() - 1;
        }
    }

    private static class Arms extends Scale {
        Arms(int figure) {
            super(figure);
        }

        @Override int weighs(Lying l) {
            return (figure + 1) * l.together(1) - l.together(2);
        }

        @Override int cost() {
            return super.cost() * (figure + 1);
        }
    }

    private static class Off extends Scale {
        Off(int figure) {
            super(figure);
        }

        @Override int weighs(Lying l) {
            return super.weighs(l) - figure;
        }

        @Override int cost() {
            return super.cost() - figure;
        }
    }

    private static final class Three extends Arms {
        Three(int figure) {
            super(figure);
        }

        @Override int weighs(Lying l) {
            return super.weighs(l) + l.together(1);
        }

        @Override boolean may(Lying l) {
            return l.howMany(1) <= 2;
        }

        @Override int cost() {
            return super.cost() + 4;
        }
    }

    private static final class Signless extends Scale {
        Signless(int figure) {
            super(figure);
        }

        @Override int weighs(Lying l) {
            return Math.abs(super.weighs(l));
        }

        @Override int cost() {
            return 2 * super.cost();
        }

        @Override int tossed() {
            return -15;
        }
    }

    private static final class Half extends One {
        Half(int figure) {
            super(figure);
        }

        @Override int weighs(Lying l) {
            return super.weighs(l) / 2;
        }

        @Override int cost() {
            return super.cost() + figure;
        }

        @Override int tossed() {
            return figure == 0 ? -15 : figure + 100;
        }
    }

    private static final class Grain extends Off {
        Grain(int figure) {
            super(figure);
        }

        @Override int weighs(Lying l) {
            return super.weighs(l) + (l.howMany(2) > 0 ? 1 : 0);
        }

        @Override int cost() {
            return super.cost() + 7;
        }

        @Override int tossed() {
            return figure == 0 ? -15 : 200 + cost();
        }
    }

    private record Row(int sort, int[] cells) { }

    private List<Stone> shop = new ArrayList<>();
    private List<Stone> image;
    private final Object[] shelves = new Object[8];

    private static boolean in(int n, int least, int most) {
        return least <= n && n <= most;
    }

    private int refusal(int d, Class<?> wanted, int sort) {
        Object held = shelves[d];
        if (held == null) {
            return -11;
        }
        return wanted.isInstance(held) && (sort < 0 || ((Row) held).sort() == sort) ? 0 : -12;
    }

    private static List<Lying> lyings(List<Stone> shop) {
        List<Lying> all = new ArrayList<>();
        int many = (int) Math.pow(3, shop.size());
        for (int n = 0; n < many; n++) {
            int[] sides = new int[shop.size()];
            int rest = n;
            for (int i = 0; i < sides.length; i++) {
                sides[i] = rest % 3;
                rest /= 3;
            }
            all.add(new Lying(sides, shop));
        }
        return all;
    }

    private List<Lying> lyings() {
        return lyings(shop);
    }

    private static Set<Integer> had(Scale scale, List<Stone> shop, int allowed) {
        Set<Integer> had = new HashSet<>();
        for (Lying l : lyings(shop)) {
            if ((l.bits() & ~allowed) == 0 && scale.may(l)) {
                had.add(scale.weighs(l));
            }
        }
        return had;
    }

    private static int reach(Set<Integer> had) {
        int n = 0;
        while (n < 999 && had.contains(n + 1)) {
            n++;
        }
        return n;
    }

    int shop(int d) {
        if (!in(d, 0, 7)) {
            return -1;
        }
        if (refusal(d, Row.class, 0) < 0) {
            return refusal(d, Row.class, 0);
        }
        StringBuilder text = new StringBuilder();
        for (int b : ((Row) shelves[d]).cells()) {
            text.append((char) (b & 255));
        }
        for (int end = 1; end <= text.length(); end++) {
            Matcher matcher = SHOP.matcher(text.substring(0, end));
            if (!matcher.matches() && !matcher.hitEnd()) {
                return -1000 - (end - 1);
            }
        }
        if (!SHOP.matcher(text).matches()) {
            return -1000 - text.length();
        }
        List<Stone> trial = new ArrayList<>(shop);
        String[] statements = text.toString().split(";");
        int place = 0;
        for (String statement : statements) {
            if (!done(trial, statement)) {
                return -2000 - place;
            }
            place += statement.length() + 1;
        }
        shop = trial;
        return statements.length;
    }

    private static boolean done(List<Stone> trial, String statement) {
        if (statement.equals("x")) {
            return !trial.isEmpty() && trial.remove(trial.size() - 1) != null;
        }
        String[] numbers = statement.substring(1).split(" ");
        int one = Integer.parseInt(numbers[0]);
        int other = Integer.parseInt(numbers[1]);
        if (statement.charAt(0) == 's') {
            return trial.size() < 6 && one > 0 && trial.add(new Stone(one, other));
        }
        if (one >= trial.size()) {
            return false;
        }
        Stone old = trial.get(one);
        if (statement.charAt(0) == 'p') {
            trial.set(one, new Stone(old.weight(), other));
            return true;
        }
        trial.set(one, new Stone(other, old.price()));
        return other > 0;
    }

    int stone(int stone, int what) {
        if (!in(stone, 0, shop.size() - 1) || !in(what, 0, 1)) {
            return -1;
        }
        return what == 0 ? shop.get(stone).weight() : shop.get(stone).price();
    }

    int lying(int lying, int what) {
        if (!in(lying, 0, count(3) - 1) || !in(what, 0, 3)) {
            return -1;
        }
        Lying l = lyings().get(lying);
        return what == 0 ? l.together(1) : what == 1 ? l.together(2) : what == 2 ? l.lifts() : l.prices();
    }

    int weighs(int d, int lying) {
        if (!in(d, 0, 7) || !in(lying, 0, count(3) - 1)) {
            return -1000000001;
        }
        if (refusal(d, Scale.class, -1) < 0) {
            return -1000000000 + refusal(d, Scale.class, -1);
        }
        Scale scale = (Scale) shelves[d];
        Lying l = lyings().get(lying);
        return scale.may(l) ? scale.weighs(l) : -1000000003;
    }

    int may(int d, int lying) {
        int weighed = weighs(d, lying);
        if (weighed == -1000000003) {
            return 0;
        }
        return weighed < -1000000000 ? weighed + 1000000000 : 1;
    }

    private List<Integer> hitting(Scale scale, int weight) {
        List<Integer> hitting = new ArrayList<>();
        List<Lying> all = lyings();
        for (int i = 0; i < all.size(); i++) {
            if (scale.may(all.get(i)) && scale.weighs(all.get(i)) == weight) {
                hitting.add(i);
            }
        }
        return hitting;
    }

    int ways(int d, int weight) {
        if (!in(d, 0, 7) || !in(weight, -9999, 9999)) {
            return -1;
        }
        int refusal = refusal(d, Scale.class, -1);
        return refusal < 0 ? refusal : hitting((Scale) shelves[d], weight).size();
    }

    int first(int d, int weight) {
        int ways = ways(d, weight);
        return ways < 0 ? ways : ways == 0 ? -4 : hitting((Scale) shelves[d], weight).get(0);
    }

    int lifts(int d, int weight, int what) {
        int ways = ways(d, weight);
        if (!in(what, 0, 1)) {
            return -1;
        }
        if (ways <= 0) {
            return ways < 0 ? ways : -4;
        }
        List<Lying> all = lyings();
        int best = Collections.min(hitting((Scale) shelves[d], weight),
            (a, b) -> all.get(a).lifts() != all.get(b).lifts() ? all.get(a).lifts() - all.get(b).lifts() : a - b);
        return what == 0 ? all.get(best).lifts() : best;
    }

    int reach(int d) {
        if (!in(d, 0, 7)) {
            return -1;
        }
        int refusal = refusal(d, Scale.class, -1);
        return refusal < 0 ? refusal : reach(had((Scale) shelves[d], shop, 63));
    }

    int hole(int d) {
        int reach = reach(d);
        return reach < 0 ? reach : reach == 999 ? -4 : reach + 1;
    }

    int list(int d, int e) {
        return set(d, e, 0, 0, true);
    }

    int cheapest(int d, int e, int there, int what) {
        return set(d, e, there, what, false);
    }

    private int pricesOf(int bits) {
        int sum = 0;
        for (int i = 0; i < shop.size(); i++) {
            sum += (bits >> i & 1) * shop.get(i).price();
        }
        return sum;
    }

    private int set(int d, int e, int there, int what, boolean fewestFirst) {
        if (!in(d, 0, 7) || !in(e, 0, 7) || !in(there, 0, (1 << shop.size()) - 1) || !in(what, 0, 1)) {
            return -1;
        }
        if (refusal(d, Scale.class, -1) < 0) {
            return refusal(d, Scale.class, -1);
        }
        if (refusal(e, Row.class, 1) < 0) {
            return refusal(e, Row.class, 1);
        }
        int[] wanted = ((Row) shelves[e]).cells();
        boolean fine = in(wanted.length, 1, 8);
        for (int w : wanted) {
            fine &= in(w, 1, 999);
        }
        if (!fine) {
            return -13;
        }
        int[] best = null;
        for (int set = 0; set < 1 << shop.size(); set++) {
            Set<Integer> had = (set & there) == there ? had((Scale) shelves[d], shop, set) : Set.of();
            boolean all = true;
            for (int w : wanted) {
                all &= had.contains(w);
            }
            int few = Integer.bitCount(set);
            int price = pricesOf(set & ~there);
            int[] rank = fewestFirst ? new int[] {few, price, set} : new int[] {price, few, set};
            if (all && (best == null || java.util.Arrays.compare(rank, best) < 0)) {
                best = rank;
            }
        }
        return best == null ? -4 : what == 0 ? best[2] : best[0];
    }

    int threes(int n, int i) {
        return series(n, i, 3);
    }

    int doubles(int n, int i) {
        return series(n, i, 2);
    }

    private static int series(int n, int i, int base) {
        if (!in(n, 1, 9999) || i < -1) {
            return -1;
        }
        int k = 1;
        while ((Math.pow(base, k) - 1) / (base - 1) < n) {
            k++;
        }
        return i == -1 ? k : i < k ? (int) Math.pow(base, i) : -4;
    }

    /** By the base 3 number that is greater by 11111111111 (eleven digits), each digit of which is 1 more. */
    private static int[] digits(int n) {
        String base3 = Integer.toString(n + 88573, 3);
        base3 = "0".repeat(11 - base3.length()) + base3;
        int[] digits = new int[11];
        for (int i = 0; i < 11; i++) {
            digits[i] = base3.charAt(10 - i) - '1';
        }
        return digits;
    }

    int digits(int n, int i) {
        if (!in(n, -9999, 9999) || i < -1) {
            return -1;
        }
        int[] digits = digits(n);
        if (i >= 0) {
            int digit = i < digits.length ? digits[i] : 0;
            return digit < 0 ? 2 : digit;
        }
        int many = digits.length;
        while (many > 0 && digits[many - 1] == 0) {
            many--;
        }
        return many;
    }

    int added(int a, int b) {
        if (!in(a, -9999, 9999) || !in(b, -9999, 9999)) {
            return -1;
        }
        int[] one = digits(a);
        int[] other = digits(b);
        int carry = 0;
        int columns = 0;
        for (int i = 0; i < one.length; i++) {
            int sum = one[i] + other[i] + carry;
            carry = sum > 1 ? 1 : sum < -1 ? -1 : 0;
            columns += carry != 0 ? 1 : 0;
        }
        return columns;
    }

    int sets(int k, int m, int n, int what) {
        if (!in(k, 1, 3) || !in(m, 1, 30) || !in(n, 1, 13) || !in(what, 0, 1)) {
            return -1;
        }
        List<Integer> codes = new ArrayList<>();
        grow(new ArrayList<>(), k, m, n, codes);
        return what == 0 ? codes.size() : codes.isEmpty() ? -4 : codes.get(0);
    }

    private static void grow(List<Integer> set, int k, int m, int n, List<Integer> codes) {
        if (set.size() == k) {
            Set<Integer> had = new HashSet<>(Set.of(0));
            int code = 0;
            for (int w : set) {
                Set<Integer> more = new HashSet<>(had);
                had.forEach(h -> Collections.addAll(more, h + w, h - w));
                had = more;
                code = code * 100 + w;
            }
            if (reach(had) >= n) {
                codes.add(code);
            }
            return;
        }
        for (int w = set.isEmpty() ? 1 : set.get(set.size() - 1) + 1; w <= m; w++) {
            set.add(w);
            grow(set, k, m, n, codes);
            set.remove(set.size() - 1);
        }
    }

    int lost(int d, int stone) {
        if (!in(d, 0, 7) || !in(stone, 0, shop.size() - 1)) {
            return -1;
        }
        int reach = reach(d);
        if (reach < 0) {
            return reach;
        }
        Set<Integer> left = had((Scale) shelves[d], shop, ~(1 << stone));
        int lost = 0;
        for (int n = 1; n <= reach; n++) {
            lost += left.contains(n) ? 0 : 1;
        }
        return lost;
    }

    int harmsLeast(int d) {
        if (reach(d) < 0) {
            return reach(d);
        }
        int best = -4;
        for (int stone = shop.size() - 1; stone >= 0; stone--) {
            best = best < 0 || lost(d, stone) <= lost(d, best) ? stone : best;
        }
        return best;
    }

    int trials(int bits) {
        if (!in(bits, 0, (1 << shop.size()) - 1) || Integer.bitCount(bits) < 2) {
            return -1;
        }
        return Integer.bitCount(bits) <= 3 ? 1 : 2;
    }

    int found(int d) {
        if (!in(d, 0, 7)) {
            return -1;
        }
        if (refusal(d, Row.class, 0) < 0) {
            return refusal(d, Row.class, 0);
        }
        int[] told = ((Row) shelves[d]).cells();
        if (told.length % 2 == 1) {
            return -13;
        }
        int found = 15;
        for (int i = 0; i < told.length; i += 2) {
            if (!in(told[i], 0, 80) || !in(told[i + 1], 0, 2)) {
                return -13;
            }
            String sides = Integer.toString(81 + told[i], 3);
            for (int stone = 0; stone < 4; stone++) {
                found &= sides.charAt(4 - stone) - '0' == told[i + 1] ? 15 : ~(1 << stone);
            }
        }
        return found;
    }

    int twice(int a, int b, int what) {
        int less = what == 1 ? 1000000000 : 0;
        if (!in(a, 0, 999) || !in(b, 0, 999) || !in(what, 0, 1)) {
            return -1 - less;
        }
        if ((a + b) % 2 == 1) {
            return -4 - less;
        }
        return what == 0 ? (a + b) / 2 : a - (a + b) / 2;
    }

    int customers(int one, int other, int what) {
        if (!in(one, 1, 999) || !in(other, 1, 999) || !in(what, 0, 2)) {
            return -1;
        }
        List<Lying> all = lyings();
        int pairs = 0;
        for (int a : hitting(new Scale(0), one)) {
            for (int b : hitting(new Scale(0), other)) {
                if ((all.get(a).bits() & all.get(b).bits()) == 0) {
                    if (what > 0) {
                        return what == 1 ? a : b;
                    }
                    pairs++;
                }
            }
        }
        return what == 0 ? pairs : -4;
    }

    int unknown(int stone, int d, int what) {
        if (!in(stone, 0, shop.size() - 1) || !in(d, 0, 7) || !in(what, 0, 1)) {
            return -1;
        }
        if (refusal(d, Row.class, 2) < 0) {
            return refusal(d, Row.class, 2);
        }
        int[] weighed = ((Row) shelves[d]).cells();
        boolean fine = weighed.length % 2 == 0;
        for (int i = 0; i < weighed.length; i += 2) {
            fine &= in(weighed[i], 0, count(3) - 1);
        }
        if (!fine) {
            return -13;
        }
        List<Integer> fitting = new ArrayList<>();
        for (int weight = 1; weight <= 99; weight++) {
            List<Stone> trial = new ArrayList<>(shop);
            trial.set(stone, new Stone(weight, 0));
            List<Lying> all = lyings(trial);
            boolean fits = true;
            for (int i = 0; i < weighed.length; i += 2) {
                fits &= new Scale(0).weighs(all.get(weighed[i])) == weighed[i + 1];
            }
            if (fits) {
                fitting.add(weight);
            }
        }
        return what == 0 ? fitting.size() : fitting.isEmpty() ? -4 : fitting.get(0);
    }

    int seeded(int d, int n, int z) {
        if (!in(d, 0, 7) || !in(n, 1, 6)) {
            return -1;
        }
        if (refusal(d, Scale.class, -1) < 0) {
            return refusal(d, Scale.class, -1);
        }
        List<Stone> drawn = new ArrayList<>();
        long seed = z;
        for (int i = 0; i < n; i++) {
            seed = (int) (seed * 1103515245L + 12345L);
            long withoutSign = seed < 0 ? seed + 2147483648L : seed;
            drawn.add(new Stone((int) (withoutSign / 65536 % 40) + 1, 0));
        }
        return reach(had((Scale) shelves[d], drawn, 63));
    }

    int judge(int d, int e) {
        if (!in(d, 0, 7) || !in(e, 0, 7)) {
            return -1;
        }
        if (refusal(d, Scale.class, -1) < 0) {
            return refusal(d, Scale.class, -1);
        }
        if (refusal(e, Row.class, -1) < 0) {
            return refusal(e, Row.class, -1);
        }
        int[] told = ((Row) shelves[e]).cells();
        for (int i = 0; i + 1 < told.length; i += 2) {
            int weighed = weighs(d, told[i]);
            if (weighed < -1000000000 || weighed != told[i + 1]) {
                return i;
            }
        }
        return told.length % 2 == 1 ? told.length : -4;
    }

    int image() {
        image = List.copyOf(shop);
        return shop.size();
    }

    int restore() {
        if (image == null) {
            return -3;
        }
        shop = new ArrayList<>(image);
        return shop.size();
    }

    int count(int what) {
        return switch (what) {
            case 0 -> shop.size();
            case 1 -> shop.stream().mapToInt(Stone::weight).sum();
            case 2 -> shop.stream().mapToInt(Stone::price).sum();
            case 3 -> (int) Math.pow(3, shop.size());
            default -> -1;
        };
    }

    int keep(int d, int what, int k, int figure) {
        if (!in(d, 0, 7) || !in(what, 0, 1) || what == 1 && !(in(k, 0, 7) && in(figure, 0, 9))) {
            return -1;
        }
        shelves[d] = what == 0 ? null : Scale.of(k, figure);
        return 0;
    }

    int row(int d, int sort, int n) {
        if (!in(d, 0, 7) || !in(sort, 0, 2) || n > 100) {
            return -1;
        }
        if (n < 0) {
            return -14;
        }
        shelves[d] = new Row(sort, new int[n]);
        return 0;
    }

    int put(int d, int i, int v) {
        if (!in(d, 0, 7)) {
            return -1;
        }
        if (refusal(d, Row.class, -1) < 0) {
            return refusal(d, Row.class, -1);
        }
        Row row = (Row) shelves[d];
        if (!in(i, 0, row.cells().length - 1)) {
            return -13;
        }
        row.cells()[i] = row.sort() == 0 ? (byte) v : row.sort() == 1 ? (short) v : v;
        return 0;
    }

    /** A number that no element can be stands for what is thrown. */
    long element(int d, int i) {
        if (!in(d, 0, 7)) {
            return Long.MIN_VALUE;
        }
        boolean there = shelves[d] instanceof Row row && in(i, 0, row.cells().length - 1);
        return there ? ((Row) shelves[d]).cells()[i] : Long.MAX_VALUE;
    }

    int copy(int d, int i, int e, int j, int n) {
        if (!in(d, 0, 7) || !in(e, 0, 7)) {
            return -1;
        }
        if (shelves[d] == null || shelves[e] == null) {
            return -11;
        }
        if (!(shelves[d] instanceof Row from) || !(shelves[e] instanceof Row to) || from.sort() != to.sort()) {
            return -12;
        }
        if (n < 0 || i < 0 || j < 0 || (long) i + n > from.cells().length || (long) j + n > to.cells().length) {
            return -13;
        }
        int[] taken = new int[n];
        for (int c = 0; c < n; c++) {
            taken[c] = from.cells()[i + c];
        }
        for (int c = 0; c < n; c++) {
            to.cells()[j + c] = taken[c];
        }
        return n;
    }

    int cost(int d) {
        if (!in(d, 0, 7)) {
            return -1;
        }
        int refusal = refusal(d, Scale.class, -1);
        return refusal < 0 ? refusal : ((Scale) shelves[d]).cost();
    }

    int toss(int d) {
        if (!in(d, 0, 7)) {
            return -1;
        }
        int refusal = refusal(d, Scale.class, -1);
        return refusal < 0 ? refusal : ((Scale) shelves[d]).tossed();
    }
}
