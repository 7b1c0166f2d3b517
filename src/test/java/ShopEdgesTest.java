import java.util.regex.Matcher;
import java.util.regex.Pattern;

/** Each boundary that the document names for promises 1 to 4 (shops) and 28 to 30 (the image, what is told). */
public final class ShopEdgesTest {

    private static final Edges E = new Edges(ShopEdgesTest.class);
    private static final String NUMBER = "(0|[1-9][0-9]?)";
    private static final Pattern SHOP = Pattern.compile("(s" + NUMBER + " " + NUMBER + ";|[wp][0-9] " + NUMBER + ";|x;)+");
    private static final int[] SIX_HEAVY = {99, 99, 99, 99, 99, 99, 99, 99, 99, 99, 99, 99};

    public static void main(String[] args) {
        E.runAll();
    }

    private static FourStones texted(FourStones x, String text) {
        Checks.text(x, Edges.BYTES_AT, text);
        return x;
    }

    /** A text that is refused changes nothing. */
    private static void faulty(String text, int want) {
        E.stays("shop of '" + text + "'", () -> texted(Edges.full(), text), x -> x.shop(Edges.BYTES_AT), want);
    }

    private static void faultyAt(int stones, String text, int want) {
        int[] told = new int[2 * stones];
        java.util.Arrays.fill(told, 1);
        E.stays("shop of '" + text + "' on " + stones, () -> texted(Edges.shop(told), text), x -> x.shop(Edges.BYTES_AT), want);
    }

    private static FourStones read(FourStones x, String text, int want) {
        E.due("shop of '" + text + "'", Checks.read(x, text), want);
        return x;
    }

    private static FourStones stones(int count) {
        int[] told = new int[2 * count];
        for (int stone = 0; stone < count; stone++) {
            told[2 * stone] = stone + 1;
            told[2 * stone + 1] = 10 * stone;
        }
        return Checks.stones(told);
    }

    // ---- promise 1

    private static void promise1NoStonesAndOneLying() {
        FourStones x = new FourStones();
        E.due("count(0)", x.count(0), 0);
        E.due("count(1)", x.count(1), 0);
        E.due("count(2)", x.count(2), 0);
        E.due("count(3)", x.count(3), 1);
        for (int stone = -1; stone <= 6; stone++) {
            E.due("stone(" + stone + ", 0)", x.stone(stone, 0), -1);
        }
        for (int what = 0; what < 4; what++) {
            E.due("lying(0, " + what + ")", x.lying(0, what), 0);
            E.due("lying(1, " + what + ")", x.lying(1, what), -1);
        }
    }

    private static void promise1EveryShelfHoldsNothing() {
        FourStones x = new FourStones();
        for (int d = 0; d < 8; d++) {
            E.due("cost(" + d + ")", x.cost(d), -11);
            E.due("shop(" + d + ")", x.shop(d), -11);
            E.due("put(" + d + ", 0, 0)", x.put(d, 0, 0), -11);
            E.due("element(" + d + ", 0)", Checks.thrown(x, d, 0), 2);
        }
    }

    private static void promise1NoImage() {
        E.due("restore()", new FourStones().restore(), -3);
    }

    private static void promise1ObjectsDoNotMeet() {
        FourStones x = new FourStones();
        FourStones y = new FourStones();
        read(x, "s1 1;", 1);
        x.image();
        x.keep(7, 1, 0, 0);
        E.due("stones of another object", y.count(0), 0);
        E.due("image of another object", y.restore(), -3);
        E.due("shelf of another object", y.cost(7), -11);
    }

    // ---- promise 2

    private static void promise2AtLeastOneStatement() {
        faulty("", -1000);
        read(new FourStones(), "s1 0;", 1);
    }

    private static void promise2WeightsFrom1To99() {
        FourStones x = new FourStones();
        read(x, "s1 7;", 1);
        E.due("WEIGHT 1", x.stone(0, 0), 1);
        read(x, "s99 7;", 1);
        E.due("WEIGHT 99", x.stone(1, 0), 99);
        read(x, "w0 99;", 1);
        E.due("w: WEIGHT 99", x.stone(0, 0), 99);
        read(x, "w1 1;", 1);
        E.due("w: WEIGHT 1", x.stone(1, 0), 1);
        faultyAt(5, "s0 1;", -2000);
        faultyAt(5, "s100 1;", -1003);
        faulty("w0 0;", -2000);
        faulty("w0 100;", -1005);
    }

    private static void promise2PricesFrom0To99() {
        FourStones x = new FourStones();
        read(x, "s1 0;", 1);
        E.due("PRICE 0", x.stone(0, 1), 0);
        read(x, "s1 99;", 1);
        E.due("PRICE 99", x.stone(1, 1), 99);
        read(x, "p0 99;", 1);
        E.due("p: PRICE 99", x.stone(0, 1), 99);
        read(x, "p1 0;", 1);
        E.due("p: PRICE 0", x.stone(1, 1), 0);
        faultyAt(5, "s1 100;", -1005);
        faultyAt(5, "s1 -1;", -1003);
        faulty("p0 100;", -1005);
        faulty("p0 -1;", -1003);
    }

    private static void promise2OneOrTwoDigitsAndNo0Ahead() {
        FourStones x = new FourStones();
        read(x, "s9 9;s10 10;s90 90;", 3);
        E.due("10", x.stone(1, 0), 10);
        E.due("90", x.stone(2, 1), 90);
        faultyAt(0, "s00 1;", -1002);
        faultyAt(0, "s01 1;", -1002);
        faultyAt(0, "s1 00;", -1004);
        faultyAt(0, "s1 09;", -1004);
        faulty("w0 01;", -1004);
        faulty("p0 00;", -1004);
        faulty("s 1;", -1001);
        faulty("s1 ;", -1003);
    }

    private static void promise2StoneIsOneDigit() {
        FourStones x = stones(6);
        read(x, "w0 7;w5 8;p0 9;p5 6;", 4);
        E.due("w0", x.stone(0, 0), 7);
        E.due("w5", x.stone(5, 0), 8);
        E.due("p0", x.stone(0, 1), 9);
        E.due("p5", x.stone(5, 1), 6);
        for (char letter : new char[] {'w', 'p'}) {
            faulty(letter + "6 1;", -2000);
            faulty(letter + "9 1;", -2000);
            faulty(letter + "05 1;", -1002);
            faulty(letter + "10 1;", -1002);
            faulty(letter + "/ 1;", -1001);
            faulty(letter + ": 1;", -1001);
            faulty(letter + " 1;", -1001);
        }
    }

    private static void promise2NoSuchStoneAtEachCount() {
        for (int count = 0; count <= 6; count++) {
            for (char letter : new char[] {'w', 'p'}) {
                if (count > 0) {
                    read(stones(count), letter + "" + (count - 1) + " 50;", 1);
                }
                faultyAt(count, letter + "" + count + " 50;", -2000);
            }
        }
    }

    private static void promise2EveryFirstByte() {
        for (int b = -128; b < 128; b++) {
            FourStones x = Edges.row(Edges.full(), 0, Checks.BYTES, b);
            boolean letter = b == 's' || b == 'w' || b == 'p' || b == 'x';
            E.due("shop of byte " + b, x.shop(0), letter ? -1001 : -1000);
        }
    }

    /** Each byte at each place of a text that is right, and each place cut off. */
    private static void promise2FirstByteWithWhichNoShopCanGoOn() {
        String right = "x;s10 0;p0 34;w0 5;";
        for (int place = 0; place < right.length(); place++) {
            dueByPattern(right.substring(0, place));
            for (char b = 0; b < 256; b++) {
                dueByPattern(right.substring(0, place) + b + right.substring(place + 1));
            }
            for (char b : "0123456789 ;swpx".toCharArray()) {
                dueByPattern(right.substring(0, place) + b + right.substring(place));
            }
            dueByPattern(right.substring(0, place) + right.substring(place + 1));
        }
    }

    /** Six stones of any weight: only kind 1 is looked at here. */
    private static void dueByPattern(String text) {
        Matcher matcher = SHOP.matcher(text);
        int got = Checks.read(stones(6), text);
        if (matcher.matches()) {
            E.holds("no fault of kind 1 in '" + text + "': " + got, got > 0 || got <= -2000);
            return;
        }
        int place = 0;
        while (place < text.length() && goesOn(text.substring(0, place + 1))) {
            place++;
        }
        E.due("shop of '" + text + "'", got, -1000 - place);
    }

    private static boolean goesOn(String start) {
        Matcher matcher = SHOP.matcher(start);
        return matcher.matches() || matcher.hitEnd();
    }

    private static void promise2TheSizeIfItEndsTooEarly() {
        for (String right : new String[] {"s12 34;", "w0 12;", "p0 12;", "x;", "s1 2;x;w0 1;"}) {
            for (int size = 0; size < right.length(); size++) {
                if (size == 0 || right.charAt(size - 1) != ';') {
                    faultyAt(1, right.substring(0, size), -1000 - size);
                }
            }
        }
    }

    private static void promise2Kind1AheadOfKind2OfAnyPlace() {
        faulty("s0 1;", -2000);
        faulty("s0 1;z", -1005);
        faulty("w9 1;w8 1;x", -1011);
        faulty("x;x;x;x;x;x;x;x;;", -1016);
        faulty("w0 0", -1004);
        faulty("s0 1;s0 1;s0 01;", -1014);
    }

    private static void promise2Kind2ThePlaceOfTheFirstLetter() {
        faulty("w9 1;w9 1;", -2000);
        faulty("w0 0;p0 1;x;w5 1;", -2000);
        faulty("p0 1;w0 0;s0 0;w9 1;", -2005);
        faulty("x;p0 11;w9 9;x;", -2008);
        faulty("x;x;x;x;x;x;x;", -2012);
    }

    private static void promise2NoRoomBehindSix() {
        FourStones x = new FourStones();
        read(x, "s1 1;s2 2;s3 3;s4 4;s5 5;s6 6;", 6);
        E.due("six STONES", x.count(0), 6);
        E.due("the sixth", x.stone(5, 1), 6);
        faultyAt(0, "s1 1;s2 2;s3 3;s4 4;s5 5;s6 6;s7 7;", -2030);
        faultyAt(6, "s1 1;", -2000);
        faultyAt(5, "s1 1;s1 1;", -2005);
        faultyAt(6, "s0 1;", -2000);
    }

    private static void promise2NoneLeftForX() {
        FourStones x = stones(1);
        read(x, "x;", 1);
        E.due("no STONES", x.count(0), 0);
        E.due("x of none", Checks.read(x, "x;"), -2000);
        faultyAt(0, "x;", -2000);
        faultyAt(1, "x;x;", -2002);
        FourStones six = stones(6);
        read(six, "x;x;x;x;x;x;", 6);
        E.due("none of six", six.count(0), 0);
    }

    private static void promise2EachOnWhatThoseAheadMade() {
        FourStones x = stones(6);
        read(x, "x;s7 8;w5 9;p5 1;", 4);
        E.due("room by x, then s, w, p", x.stone(5, 0), 9);
        E.due("its price", x.stone(5, 1), 1);
        faultyAt(6, "s7 8;x;", -2000);
        faultyAt(6, "x;w5 9;", -2002);
        faultyAt(0, "w0 1;s1 1;", -2000);
        FourStones none = new FourStones();
        read(none, "s1 1;w0 2;x;s3 3;x;s4 4;", 6);
        E.due("one STONE in the end", none.count(0), 1);
        E.due("its WEIGHT", none.stone(0, 0), 4);
    }

    private static void promise2XTakesTheLatestAlone() {
        FourStones x = stones(3);
        read(x, "x;", 1);
        E.due("two STONES", x.count(0), 2);
        E.due("the first stays", x.stone(0, 0), 1);
        E.due("the second stays", x.stone(1, 0), 2);
        E.due("the third is no more", x.stone(2, 0), -1);
        read(x, "s50 51;", 1);
        E.due("a new third", x.stone(2, 0), 50);
        E.due("its own PRICE", x.stone(2, 1), 51);
    }

    private static void promise2ATextOf100Bytes() {
        FourStones x = stones(1);
        read(x, "p0 1;".repeat(19) + "p0 7;", 20);
        E.due("by the last one", x.stone(0, 1), 7);
        faulty("p0 1;".repeat(19) + "w0 0;", -2095);
        faulty("p0 1;".repeat(19) + "p0 1z", -1099);
        faulty("p0 1;".repeat(19) + "p0 12", -1100);
        faulty("x;".repeat(50), -2012);
    }

    private static void promise2WithAFaultNothingComes() {
        faulty("x;w0 7;p0 7;s1 1;s1 1;", -2017);
        faulty("x;w0 7;p0 7;s1 1;s1 1", -1021);
        faulty("w5 1;p5 1;x;w5 1;", -2012);
    }

    private static void promise2TheNextShopBehindAFault() {
        FourStones x = stones(3);
        E.due("kind 2", Checks.read(x, "x;w0 90;x;p0 91;x;x;"), -2018);
        E.due("kind 1", Checks.read(x, "s80 1;s81 1"), -1011);
        read(x, "s70 1;", 1);
        E.due("four STONES", x.count(0), 4);
        E.due("the first", x.stone(0, 0), 1);
        E.due("its PRICE", x.stone(0, 1), 0);
        E.due("the fourth", x.stone(3, 0), 70);
        E.due("no fifth", x.stone(4, 0), -1);
    }

    private static void promise2TheTextStays() {
        FourStones x = Edges.full();
        Checks.text(x, 0, "x;s5 5;");
        E.due("shop", x.shop(0), 2);
        for (int i = 0; i < 7; i++) {
            E.due("element " + i, x.element(0, i), "x;s5 5;".charAt(i));
        }
        E.due("no more of it", Checks.thrown(x, 0, 7), 2);
        E.due("shop again", x.shop(0), 2);
    }

    private static void promise2LyingsFollow() {
        FourStones x = stones(2);
        Checks.read(x, "w0 50;");
        E.due("RIGHT of 1 behind w", x.lying(1, 0), 50);
        Checks.read(x, "p0 60;");
        E.due("PRICES of 1 behind p", x.lying(1, 3), 60);
        Checks.read(x, "s70 3;");
        E.due("RIGHT of 9 behind s", x.lying(9, 0), 70);
        Checks.read(x, "x;");
        E.due("no lying 9 behind x", x.lying(9, 0), -1);
    }

    private static void promise2RefusalsInTheirOrder() {
        for (int d : Edges.NO_SHELVES) {
            E.stays("shop(" + d + ")", Edges::full, x -> x.shop(d), -1);
        }
        E.stays("shop of nothing", Edges::full, x -> x.shop(Edges.NOTHING_AT), -11);
        E.stays("shop of a scale", Edges::full, x -> x.shop(Edges.SCALE_AT), -12);
        E.stays("shop of shorts", () -> Edges.row(Edges.full(), 1, Checks.SHORTS, 'x', ';'), x -> x.shop(1), -12);
        E.stays("shop of ints", () -> Edges.row(Edges.full(), 2, Checks.INTS, 'x', ';'), x -> x.shop(2), -12);
        E.stays("shorts ahead of a fault", () -> Edges.row(Edges.full(), 1, Checks.SHORTS), x -> x.shop(1), -12);
        E.stays("ints ahead of a fault", () -> Edges.row(Edges.full(), 2, Checks.INTS, 'z'), x -> x.shop(2), -12);
    }

    private static void promise2FromTheFirstAndTheLastShelf() {
        for (int d : new int[] {0, 7}) {
            FourStones x = new FourStones();
            Checks.text(x, d, "s5 6;");
            E.due("shop(" + d + ")", x.shop(d), 1);
            E.due("its WEIGHT", x.stone(0, 0), 5);
        }
    }

    // ---- promise 3

    private static void promise3FromTheFirstToTheLastStone() {
        for (int count = 0; count <= 6; count++) {
            FourStones x = stones(count);
            for (int stone = 0; stone < count; stone++) {
                E.due("WEIGHT of " + stone + " of " + count, x.stone(stone, 0), stone + 1);
                E.due("PRICE of " + stone + " of " + count, x.stone(stone, 1), 10 * stone);
            }
            for (int stone : new int[] {count, -1, 6, Edges.MIN, Edges.MAX}) {
                E.due("WEIGHT of " + stone + " of " + count, x.stone(stone, 0), -1);
                E.due("PRICE of " + stone + " of " + count, x.stone(stone, 1), -1);
            }
        }
    }

    private static void promise3What0And1Alone() {
        for (int what : new int[] {-1, 2, Edges.MIN, Edges.MAX}) {
            E.stays("stone(0, " + what + ")", Edges::full, x -> x.stone(0, what), -1);
            E.stays("stone(6, " + what + ")", Edges::full, x -> x.stone(6, what), -1);
        }
        E.stays("stone(5, 0)", Edges::full, x -> x.stone(5, 0), 99);
        E.stays("stone(5, 1)", Edges::full, x -> x.stone(5, 1), 1);
    }

    // ---- promise 4

    private static void promise4FromTheFirstToTheLastLying() {
        int lyings = 1;
        for (int count = 0; count <= 6; count++) {
            FourStones x = stones(count);
            int together = count * (count + 1) / 2;
            E.due("RIGHT of 0 of " + count, x.lying(0, 0), 0);
            E.due("LEFT of the last of " + count, x.lying(lyings - 1, 1), together);
            E.due("LIFTS of the last of " + count, x.lying(lyings - 1, 2), count);
            for (int lying : new int[] {lyings, -1, 729, Edges.MIN, Edges.MAX}) {
                for (int what = 0; what < 4; what++) {
                    E.due("lying(" + lying + ", " + what + ") of " + count, x.lying(lying, what), -1);
                }
            }
            lyings *= 3;
        }
    }

    private static void promise4What0To3Alone() {
        for (int what : new int[] {-1, 4, Edges.MIN, Edges.MAX}) {
            E.stays("lying(0, " + what + ")", Edges::full, x -> x.lying(0, what), -1);
            E.stays("lying(728, " + what + ")", Edges::full, x -> x.lying(728, what), -1);
            E.stays("lying(729, " + what + ")", Edges::full, x -> x.lying(729, what), -1);
        }
        E.stays("lying(728, 3)", Edges::full, x -> x.lying(728, 3), 114);
    }

    private static void promise4AllOfTheHeaviest() {
        FourStones x = Checks.stones(SIX_HEAVY);
        E.due("all right, RIGHT", x.lying(364, 0), 594);
        E.due("all right, LEFT", x.lying(364, 1), 0);
        E.due("all left, RIGHT", x.lying(728, 0), 0);
        E.due("all left, LEFT", x.lying(728, 1), 594);
        E.due("all left, LIFTS", x.lying(728, 2), 6);
        E.due("all left, PRICES", x.lying(728, 3), 594);
    }

    private static void promise4EveryLyingByThrees() {
        FourStones x = stones(6);
        for (int lying = 0; lying < 729; lying++) {
            if (lying % 100 == 0) {
                x = stones(6);
            }
            int[] sums = new int[4];
            int rest = lying;
            for (int stone = 0; stone < 6; stone++) {
                int side = rest % 3;
                rest /= 3;
                sums[0] += side == 1 ? stone + 1 : 0;
                sums[1] += side == 2 ? stone + 1 : 0;
                sums[2] += side == 0 ? 0 : 1;
                sums[3] += side == 0 ? 0 : 10 * stone;
            }
            for (int what = 0; what < 4; what++) {
                E.due("lying(" + lying + ", " + what + ")", x.lying(lying, what), sums[what]);
            }
        }
    }

    // ---- promises 28 and 29

    private static void promise28OfNoStonesAndOfSix() {
        FourStones x = new FourStones();
        E.due("image of none", x.image(), 0);
        Checks.read(x, "s5 5;");
        E.due("restore none", x.restore(), 0);
        E.due("none again", x.count(0), 0);
        E.due("one LYING", x.count(3), 1);
        FourStones six = stones(6);
        E.due("image of six", six.image(), 6);
        Checks.read(six, "x;x;x;x;x;x;");
        E.due("restore six", six.restore(), 6);
        E.due("the sixth again", six.stone(5, 0), 6);
        E.due("its PRICE", six.stone(5, 1), 50);
        E.due("729 LYINGS", six.count(3), 729);
    }

    private static void promise28TakesNothingAway() {
        FourStones x = stones(3);
        x.image();
        E.same("image()", Edges.shelved(x), withImageOf(stones(3)));
    }

    private static FourStones withImageOf(FourStones x) {
        x.image();
        return Edges.shelved(x);
    }

    private static void promise28ALaterOneInPlaceOfTheEarlier() {
        FourStones x = stones(2);
        x.image();
        Checks.read(x, "s50 50;w0 40;");
        E.due("a later image", x.image(), 3);
        Checks.read(x, "x;x;x;");
        E.due("restore", x.restore(), 3);
        E.due("as at the later", x.stone(0, 0), 40);
        E.due("the third", x.stone(2, 0), 50);
    }

    private static void promise28IsNotChangedByWhatComesBehind() {
        FourStones x = stones(2);
        x.image();
        Checks.read(x, "w0 40;p0 41;w1 42;p1 43;");
        x.restore();
        E.due("WEIGHT 0", x.stone(0, 0), 1);
        E.due("PRICE 0", x.stone(0, 1), 0);
        E.due("WEIGHT 1", x.stone(1, 0), 2);
        E.due("PRICE 1", x.stone(1, 1), 10);
        Checks.read(x, "w0 40;");
        x.restore();
        E.due("WEIGHT 0 behind a second restore", x.stone(0, 0), 1);
    }

    private static void promise29TheNextShopBehindIt() {
        FourStones x = stones(2);
        x.image();
        Checks.read(x, "w0 90;s80 1;s81 1;");
        x.restore();
        read(x, "s70 1;", 1);
        E.due("three STONES", x.count(0), 3);
        E.due("the first", x.stone(0, 0), 1);
        E.due("the third", x.stone(2, 0), 70);
    }

    private static void promise29WithoutAnImage() {
        E.stays("restore without an image", () -> Edges.shop(1, 5, 3, 0), FourStones::restore, -3);
        E.stays("restore without stones or image", Edges::bare, FourStones::restore, -3);
    }

    private static void promise29ShelvesStayAsTheyAre() {
        FourStones x = stones(2);
        Edges.shelved(x);
        x.image();
        x.put(Edges.BYTES_AT, 0, 77);
        x.keep(Edges.SCALE_AT, 1, 2, 4);
        x.row(Edges.NOTHING_AT, Checks.SHORTS, 2);
        x.keep(Edges.HALF_AT, 0, 0, 0);
        E.due("restore", x.restore(), 2);
        E.due("an element", x.element(Edges.BYTES_AT, 0), 77);
        E.due("a scale", x.cost(Edges.SCALE_AT), 25);
        E.due("a row", x.put(Edges.NOTHING_AT, 1, 1), 0);
        E.due("nothing", x.cost(Edges.HALF_AT), -11);
    }

    private static void promise29TheImageStays() {
        FourStones x = stones(4);
        x.image();
        for (int time = 0; time < 3; time++) {
            Checks.read(x, time == 0 ? "x;x;x;x;" : "w0 90;x;");
            E.due("restore", x.restore(), 4);
            E.due("WEIGHT", x.stone(0, 0), 1);
            E.due("the fourth", x.stone(3, 0), 4);
        }
        E.due("restore at once again", x.restore(), 4);
    }

    private static void promise29LyingsAreAsThen() {
        FourStones x = stones(2);
        x.image();
        Checks.read(x, "w1 90;s7 7;");
        x.restore();
        E.due("RIGHT of 3", x.lying(3, 0), 2);
        E.due("LEFT of 8", x.lying(8, 1), 3);
        E.due("no lying 9", x.lying(9, 0), -1);
        x.keep(3, 1, 0, 0);
        E.due("reach", x.reach(3), 3);
    }

    // ---- promise 30

    private static void promise30WithNoStonesAndWithSix() {
        int[] ofNone = {0, 0, 0, 1};
        int[] ofSix = {6, 220, 114, 729};
        int[] ofHeaviest = {6, 594, 594, 729};
        for (int what = 0; what < 4; what++) {
            int asked = what;
            E.stays("count(" + what + ") of none", Edges::bare, x -> x.count(asked), ofNone[what]);
            E.stays("count(" + what + ") of six", Edges::full, x -> x.count(asked), ofSix[what]);
            E.stays("count(" + what + ") of the heaviest", () -> Edges.shop(SIX_HEAVY), x -> x.count(asked), ofHeaviest[what]);
        }
    }

    private static void promise30LyingsAtEachCount() {
        int lyings = 1;
        for (int count = 0; count <= 6; count++) {
            E.due("LYINGS of " + count, stones(count).count(3), lyings);
            E.due("STONES of " + count, stones(count).count(0), count);
            lyings *= 3;
        }
    }

    private static void promise30OthersAreRefused() {
        for (int what : new int[] {-1, 4, Edges.MIN, Edges.MAX}) {
            E.stays("count(" + what + ")", Edges::full, x -> x.count(what), -1);
        }
    }

    private static void promise30NotOfStonesThatAreNoMore() {
        FourStones x = stones(6);
        Checks.read(x, "x;x;x;x;");
        E.due("WEIGHTS", x.count(1), 3);
        E.due("PRICES", x.count(2), 10);
    }
}
