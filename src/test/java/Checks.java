/** Counts the answers that are not due, and fills shelves in one go. */
final class Checks {

    static final int BYTES = 0;
    static final int SHORTS = 1;
    static final int INTS = 2;

    private static final int CALLS = 512;

    private static FourStones lent = new FourStones();
    private static int lentTimes;

    private final String name;
    private int asked;
    private int wrong;

    Checks(String name) {
        this.name = name;
    }

    void due(String call, long got, long want) {
        asked++;
        if (got != want) {
            wrong++;
            System.out.println(name + ": " + call + " answered " + got + ", due is " + want);
        }
    }

    void holds(String what, boolean so) {
        due(what, so ? 1 : 0, 1);
    }

    /** Prints the outcome and ends the program with exit code 1 if an answer was wrong. */
    void end() {
        System.out.println(name + ": " + asked + " answers, " + wrong + " not as due");
        if (wrong > 0 || asked == 0) {
            System.exit(1);
        }
    }

    /** An object for one call that needs no stones and no shelves: a new one where the last one has been used up. */
    static FourStones fresh() {
        if (lentTimes == CALLS) {
            lent = new FourStones();
            lentTimes = 0;
        }
        lentTimes++;
        return lent;
    }

    static void row(FourStones x, int d, int sort, int... cells) {
        x.row(d, sort, cells.length);
        for (int i = 0; i < cells.length; i++) {
            x.put(d, i, cells[i]);
        }
    }

    static void text(FourStones x, int d, String text) {
        x.row(d, BYTES, text.length());
        for (int i = 0; i < text.length(); i++) {
            x.put(d, i, text.charAt(i));
        }
    }

    static int read(FourStones x, String text) {
        text(x, 0, text);
        return x.shop(0);
    }

    /** A new object with these stones (weight and price by twos). */
    static FourStones stones(int... weightsAndPrices) {
        FourStones x = new FourStones();
        for (int i = 0; i + 1 < weightsAndPrices.length; i += 2) {
            read(x, "s" + weightsAndPrices[i] + " " + weightsAndPrices[i + 1] + ";");
        }
        x.keep(0, 0, 0, 0);
        return x;
    }

    /** The four stones of the name: 1, 3, 9, 27 for forty pounds, with prices 5, 3, 8, 2. */
    static FourStones four() {
        return stones(1, 5, 3, 3, 9, 8, 27, 2);
    }

    /** A lying by its stones, the first one first: r right, l left, any other sign off. */
    static int lying(String sides) {
        int lying = 0;
        for (int i = sides.length() - 1; i >= 0; i--) {
            char side = sides.charAt(i);
            lying = 3 * lying + (side == 'r' ? 1 : side == 'l' ? 2 : 0);
        }
        return lying;
    }

    /** What element throws: 1 IllegalArgumentException, 2 IllegalStateException, 0 nothing. */
    static int thrown(FourStones x, int d, int i) {
        try {
            x.element(d, i);
            return 0;
        } catch (IllegalArgumentException e) {
            return 1;
        } catch (IllegalStateException e) {
            return 2;
        }
    }
}
