/** Promises 1 to 4 (shops) and 28 to 30 (the image, what is told). */
public final class ShopsTest {

    private static final Checks CHECKS = new Checks("shops");

    public static void main(String[] args) {
        promise1NewObject();
        promise2ShopReads();
        promise2ShopFaultsOfKind1();
        promise2ShopFaultsOfKind2();
        promise2ShopRefusals();
        promise3Stone();
        promise4Lying();
        promise28And29Image();
        promise30Count();
        CHECKS.end();
    }

    private static void due(String call, long got, long want) {
        CHECKS.due(call, got, want);
    }

    private static void dueShop(FourStones x, String text, int want) {
        due("shop of '" + text + "'", Checks.read(x, text), want);
    }

    private static void promise1NewObject() {
        FourStones x = new FourStones();
        due("new: count(0)", x.count(0), 0);
        due("new: count(3)", x.count(3), 1);
        due("new: stone(0, 0)", x.stone(0, 0), -1);
        due("new: restore", x.restore(), -3);
        for (int d = 0; d < 8; d++) {
            due("new: cost of shelf " + d, x.cost(d), -11);
        }
    }

    private static void promise2ShopReads() {
        FourStones x = new FourStones();
        dueShop(x, "s1 0;", 1);
        dueShop(x, "s99 99;s10 7;", 2);
        due("stones after two shops", x.count(0), 3);
        due("weight of stone 1", x.stone(1, 0), 99);
        due("price of stone 1", x.stone(1, 1), 99);
        due("price of stone 0", x.stone(0, 1), 0);
        dueShop(x, "w1 20;p1 0;", 2);
        due("new weight", x.stone(1, 0), 20);
        due("new price", x.stone(1, 1), 0);
        dueShop(x, "x;x;s5 6;", 3);
        due("stones after x", x.count(0), 2);
        due("the latest is no more", x.stone(1, 0), 5);
        dueShop(x, "s1 1;s2 2;s3 3;s4 4;", 4);
        due("six stones", x.count(0), 6);
        dueShop(x, "x;s9 9;x;s8 8;", 4);
        due("room by what went ahead", x.stone(5, 0), 8);
        dueShop(new FourStones(), "s1 1;x;".repeat(14), 28);
        FourStones y = new FourStones();
        dueShop(y, "s1 1;w0 2;w0 3;p0 4;", 4);
        due("one behind the other", y.stone(0, 0), 3);
        due("the text stays", y.element(0, 0), 's');
    }

    private static void promise2ShopFaultsOfKind1() {
        FourStones x = Checks.stones(4, 5);
        dueShop(x, "", -1000);
        dueShop(x, "S1 1;", -1000);
        dueShop(x, ";", -1000);
        dueShop(x, " ", -1000);
        dueShop(x, "s", -1001);
        dueShop(x, "s;", -1001);
        dueShop(x, "s1", -1002);
        dueShop(x, "s01 1;", -1002);
        dueShop(x, "s00 1;", -1002);
        dueShop(x, "s1;", -1002);
        dueShop(x, "s1:1;", -1002);
        dueShop(x, "s1/1;", -1002);
        dueShop(x, "s/1;", -1001);
        dueShop(x, "s:1;", -1001);
        dueShop(x, "s-1 1;", -1001);
        dueShop(x, "s123 1;", -1003);
        dueShop(x, "s1  1;", -1003);
        dueShop(x, "s1 ", -1003);
        dueShop(x, "s1 ;", -1003);
        dueShop(x, "s1 1", -1004);
        dueShop(x, "s1 1 ;", -1004);
        dueShop(x, "s1 02;", -1004);
        dueShop(x, "s1 100;", -1005);
        dueShop(x, "w", -1001);
        dueShop(x, "w10 1;", -1002);
        dueShop(x, "w 1 1;", -1001);
        dueShop(x, "w0 01;", -1004);
        dueShop(x, "p0", -1002);
        dueShop(x, "p0 1", -1004);
        dueShop(x, "x", -1001);
        dueShop(x, "x1;", -1001);
        dueShop(x, "x;;", -1002);
        dueShop(x, "x;y", -1002);
        dueShop(x, "s2 2;s3 3;z", -1010);
        dueShop(x, "x;".repeat(49) + "xx", -1099);
        dueShop(x, "x;x;x;s1 1", -1010);
        due("nothing of a faulty text comes", x.count(0), 1);
        due("nor a weight", x.stone(0, 0), 4);
        Checks.row(x, 0, Checks.BYTES, 's', '1', ' ', '1', ';', -5);
        due("shop of a byte below 0", x.shop(0), -1005);
    }

    private static void promise2ShopFaultsOfKind2() {
        FourStones x = Checks.stones(4, 5);
        dueShop(x, "s0 1;", -2000);
        dueShop(x, "w0 0;", -2000);
        dueShop(x, "w1 1;", -2000);
        dueShop(x, "w9 1;", -2000);
        dueShop(x, "p1 1;", -2000);
        dueShop(x, "x;x;", -2002);
        dueShop(x, "s0 1;x;x;", -2000);
        dueShop(x, "x;w0 1;", -2002);
        dueShop(x, "x;p0 1;", -2002);
        dueShop(x, "w0 7;s0 0;x;x;x;", -2005);
        dueShop(x, "s1 1;s1 1;s1 1;s1 1;s1 1;s2 2;", -2025);
        dueShop(x, "x;x;s1 1;w0 1", -1013);
        due("stones stay", x.count(0), 1);
        due("weight stays", x.stone(0, 0), 4);
        dueShop(x, "p0 0;", 1);
        due("price 0", x.stone(0, 1), 0);
        dueShop(x, "s1 1;s1 1;s1 1;s1 1;s1 1;", 5);
        dueShop(x, "s0 1;", -2000);
        dueShop(x, "w6 1;", -2000);
        dueShop(x, "w5 9;s1 1;", -2005);
        due("a weight ahead of the fault stays as it was", x.stone(5, 0), 1);
    }

    private static void promise2ShopRefusals() {
        FourStones x = new FourStones();
        due("shop(-1)", x.shop(-1), -1);
        due("shop(8)", x.shop(8), -1);
        due("shop of nothing", x.shop(7), -11);
        x.keep(7, 1, 0, 0);
        due("shop of a scale", x.shop(7), -12);
        Checks.row(x, 7, Checks.SHORTS, 'x', ';');
        due("shop of shorts", x.shop(7), -12);
        Checks.row(x, 7, Checks.INTS, 'x', ';');
        due("shop of ints", x.shop(7), -12);
    }

    private static void promise3Stone() {
        FourStones x = Checks.stones(7, 8, 9, 0);
        due("stone(0, 0)", x.stone(0, 0), 7);
        due("stone(0, 1)", x.stone(0, 1), 8);
        due("stone(1, 0)", x.stone(1, 0), 9);
        due("stone(1, 1)", x.stone(1, 1), 0);
        due("stone(2, 0)", x.stone(2, 0), -1);
        due("stone(-1, 0)", x.stone(-1, 0), -1);
        due("stone(6, 0)", x.stone(6, 0), -1);
        due("stone(0, 2)", x.stone(0, 2), -1);
        due("stone(0, -1)", x.stone(0, -1), -1);
    }

    private static void promise4Lying() {
        FourStones x = Checks.four();
        int lying = Checks.lying("lr.r");
        due("RIGHT", x.lying(lying, 0), 30);
        due("LEFT", x.lying(lying, 1), 1);
        due("LIFTS", x.lying(lying, 2), 3);
        due("PRICES", x.lying(lying, 3), 10);
        due("all off", x.lying(0, 2), 0);
        due("all left", x.lying(80, 1), 40);
        due("all left, RIGHT", x.lying(80, 0), 0);
        due("all left, PRICES", x.lying(80, 3), 18);
        due("lying(81, 0)", x.lying(81, 0), -1);
        due("lying(-1, 0)", x.lying(-1, 0), -1);
        due("lying(0, 4)", x.lying(0, 4), -1);
        due("lying(0, -1)", x.lying(0, -1), -1);
        Checks.read(x, "x;");
        due("lying(27, 0) without the fourth", x.lying(27, 0), -1);
        Checks.read(x, "w1 50;");
        due("RIGHT with a new weight", x.lying(Checks.lying("lr"), 0), 50);
        due("no stones", new FourStones().lying(0, 0), 0);
        due("no stones, lying 1", new FourStones().lying(1, 0), -1);
    }

    private static void promise28And29Image() {
        FourStones x = Checks.stones(7, 8, 9, 1);
        due("restore without an image", x.restore(), -3);
        due("image", x.image(), 2);
        Checks.read(x, "w0 1;p1 2;s3 3;");
        x.keep(5, 1, 2, 3);
        due("restore", x.restore(), 2);
        due("weight as then", x.stone(0, 0), 7);
        due("price as then", x.stone(1, 1), 1);
        due("lyings as then", x.count(3), 9);
        due("lying as then", x.lying(1, 0), 7);
        due("shelves stay", x.cost(5), 20);
        Checks.read(x, "x;x;");
        due("restore again", x.restore(), 2);
        Checks.read(x, "x;");
        due("a later image", x.image(), 1);
        Checks.read(x, "s5 5;s5 5;");
        due("restore the later one", x.restore(), 1);
        FourStones none = new FourStones();
        due("image of no stones", none.image(), 0);
        Checks.read(none, "s5 5;");
        due("restore no stones", none.restore(), 0);
        due("no stones again", none.count(0), 0);
    }

    private static void promise30Count() {
        FourStones x = Checks.stones(7, 8, 9, 1, 99, 99);
        due("STONES", x.count(0), 3);
        due("WEIGHTS", x.count(1), 115);
        due("PRICES", x.count(2), 108);
        due("LYINGS", x.count(3), 27);
        due("count(4)", x.count(4), -1);
        due("count(-1)", x.count(-1), -1);
        due("no stones' WEIGHTS", new FourStones().count(1), 0);
    }
}
