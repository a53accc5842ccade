/** Promises 21 to 23 at their edges, sentence by sentence: walls to be built, rates, suits to be dropped. */
public final class EdgePlansTest extends Edges {
    public static void main(String[] args) throws Exception {
        run(EdgePlansTest.class);
    }

    // ---- the wall to be built.

    private static void build(String about, SoundPaid x, int day, int house, int wall, int thick, int balance) {
        is(about + ": the WALL", x.build(day, house, 0), wall);
        is(about + ": how THICK", x.build(day, house, 1), thick);
        is(about + ": the BALANCE", x.build(day, house, 2), balance);
    }

    static void promise21SoThick0To9() {
        sentence(21, "one WALL, so THICK (0 to 9), in place of what it is, by which its BALANCE is greatest");
        int[] suit = {0, 0, 1};
        SoundPaid x = street("c9o0;o0c0", "c1", suit);
        build("9 is needed", x, 0, 1, 0, 9, 0);
        build("8 is enough", street("c8o0;o0c0", "c1", suit), 0, 1, 0, 8, 0);
        build("half of 9 is not more, half of 10 would be", street("m9o0;o0m0", "m1", suit), 0, 1, 0, 8, -5);
        x.wall(0, 9);
        build("0 is best", x, 0, 0, 0, 0, 9);
        build("30 DAYS of it", x, 29, 0, 0, 0, 270);
        is("it is not built", x.wall(0, 9), 9);
    }

    static void promise21InPlaceOfWhatItIs() {
        sentence(21, "one WALL, so THICK (0 to 9), in place of what it is");
        SoundPaid x = street("c9o0;o0o0;o0c0", "c1", new int[] {0, 0, 2});
        x.wall(0, 2);
        x.wall(1, 3);
        build("3 is taken away, 2 stays", x, 0, 0, 1, 0, 5);
        x.wall(1, 1);
        build("2 is taken away, 1 stays", x, 0, 0, 0, 0, 6);
        is("both are as they were", x.count(6), 3);
    }

    static void promise21OfLikeOnes() {
        sentence(21, "of like ones the least THICK, then the first: the WALL; how THICK; the BALANCE");
        build("no SUITS", street("c5c0;c5c0;c5c0", "c1"), 29, 2, 0, 0, 0);
        build("5 to 9 are alike", street("c5o0;o0c0", "c1", new int[] {0, 0, 1}), 0, 1, 0, 5, 0);
        SoundPaid x = street("c9o0;o0o0;o0c0", "c1", new int[] {0, 0, 2});
        build("WALLS 0 and 1 are alike", x, 0, 2, 0, 7, 0);
        x.wall(0, 4);
        build("WALL 1 by 3, WALL 0 by 7", x, 0, 2, 1, 3, 0);
        SoundPaid heat = street("o0o0;h5o0;o0h0", "h1", new int[] {0, 1, 2});
        build("a later one alone", heat, 0, 2, 1, 1, 0);
    }

    static void promise21OfBalancesBelow0() {
        sentence(21, "by which its BALANCE is greatest");
        SoundPaid x = street("c5o0;o0c0;c4o0", "c1", new int[] {0, 0, 1}, new int[] {0, 2, 1});
        build("4 below is more than 5 below", x, 0, 1, 0, 5, -4);
        is("it is not built", x.balance(0, 1), -9);
        build("DAY 29", x, 29, 1, 0, 5, -120);
    }

    static void promise21NoPlace() {
        sentence(21, "the BALANCE; NONE: there is no place for one.");
        build("one HOUSE", street("c5c0", "c1"), 29, 0, NONE, NONE, ANY);
        SoundPaid x = street("c9o0;o0c0", "c1", new int[] {0, 0, 1});
        x.wall(0, 9);
        build("two HOUSES have one place", x, 0, 1, 0, 9, 0);
        SoundPaid eight = street("o0o0;o0o0;o0o0;o0o0;o0o0;o0o0;c5o0;o0c0", "c1", new int[] {0, 6, 7});
        build("eight have seven", eight, 0, 7, 6, 5, 0);
    }

    static void promise21Bad() {
        sentence(21, "the BALANCE (2; as any number; NONE: -100000). BAD: -100002.");
        SoundPaid x = street("c5c0;c5c0", "c1", new int[] {0, 0, 1});
        for (int asked = 0; asked <= 2; asked++) {
            int what = asked;
            range("build(day, 0, " + what + ")", 0, 29, ANY_BAD, day -> x.build(day, 0, what));
            range("build(0, house, " + what + ")", 0, 1, ANY_BAD, house -> x.build(0, house, what));
        }
        range("build(0, 0, what)", 0, 2, ANY_BAD, what -> x.build(0, 0, what));
        is("no HOUSES", new SoundPaid().build(0, 0, 0), ANY_BAD);
    }

    // ---- the fair rate.

    private static void fair(String about, SoundPaid x, int day, int kind, int rate, int coin) {
        is(about + ": which", x.fair(day, kind, 0), rate);
        is(about + ": the COIN", x.fair(day, kind, 1), coin);
    }

    static void promise22Rate0To9() {
        sentence(22, "FAIR of a kind behind a DAY: the RATE (0 to 9) of it, in place of its own, by which COIN is least");
        int[][] both = {{0, 0, 1}, {0, 1, 0}};
        fair("81 less each RATE", street("c1m0;m9c0", "m9", both), 0, 0, 9, 72);
        fair("9 and each RATE", street("c9o0;o0c0;m1o0;o0m0", "c1;m9", new int[] {0, 0, 1}, new int[] {0, 2, 3}), 0, 1, 0, 9);
        SoundPaid own = street("c5o0;o0c0", "c7", new int[] {0, 0, 1});
        fair("in place of 7", own, 1, 0, 1, 10);
        is("its own stays", own.rate(0), 7);
        is("its own stays", own.coin(0), 35);
    }

    static void promise22ButAbove0() {
        sentence(22, "by which COIN is least, but above 0");
        fair("0 is left out", street("h5o0;o0h0", "h9", new int[] {0, 0, 1}), 0, 2, 1, 5);
        int[][] both = {{0, 0, 1}, {0, 1, 0}};
        SoundPaid x = street("c3m0;m6c0", "m1", both);
        fair("2 is left out, 1 and 3 are alike", x, 0, 0, 1, 3);
        SoundPaid half = street("c2m0;m3c0", "m1", both);
        fair("1 by 1 and by 2", half, 0, 0, 1, 1);
    }

    static void promise22OfLikeOnesTheLeast() {
        sentence(22, "by which COIN is least, but above 0, of like ones the least: which; the COIN");
        SoundPaid x = street("c5o0;o0c0", "c7", new int[] {0, 0, 1});
        fair("SOUND is nothing to it", x, 0, 1, 0, 35);
        fair("nor is HEAT", x, 29, 2, 0, 1050);
        int[][] both = {{0, 0, 1}, {0, 1, 0}};
        fair("2 and 4 are alike", street("c4m0;m4c0", "m3", both), 0, 0, 2, 4);
    }

    static void promise22None() {
        sentence(22, "which; the COIN; NONE: by all it is 0.");
        fair("no HOUSES", new SoundPaid(), 29, 0, NONE, NONE);
        SoundPaid x = street("c5o0;o0c0", "c7");
        fair("no SUITS", x, 29, 0, NONE, NONE);
        x.suit(3, 0, 1);
        fair("ahead of the SUIT", x, 2, 0, NONE, NONE);
        fair("its DAY", x, 3, 0, 1, 5);
        SoundPaid free = street("c5o0;o0c0", "", new int[] {0, 0, 1});
        fair("without a RATE of another", free, 0, 1, NONE, NONE);
    }

    static void promise22Bad() {
        sentence(22, "FAIR: which (what = 0), the COIN (1); NONE. BAD.");
        SoundPaid x = street("c5o0;o0c0", "c7", new int[] {0, 0, 1});
        range("fair(day, 0, 0)", 0, 29, BAD, day -> x.fair(day, 0, 0));
        range("fair(day, 0, 1)", 0, 29, BAD, day -> x.fair(day, 0, 1));
        range("fair(0, kind, 0)", 0, 2, BAD, kind -> x.fair(0, kind, 0));
        range("fair(0, 0, what)", 0, 1, BAD, what -> x.fair(0, 0, what));
    }

    // ---- the suits to be dropped.

    private static void drop(String about, SoundPaid x, int day, int number, int first, int second) {
        is(about + ": how many", x.drop(day, NONE), number);
        is(about + ": the first", x.drop(day, 0), first);
        is(about + ": the second", x.drop(day, 1), second);
    }

    /** Houses 0 to 2 bring 5 a day each from house 3, with so many coins. */
    private static SoundPaid threeCooks(char coins, int[]... suits) {
        return street(new String(new char[] {'c', '9', 'o', '0', ';', 'c', '7', 'o', '0', ';', 'c', '5', 'o', '0', ';',
            'o', '0', 'c', coins}), "c1", suits);
    }

    static void promise23Fewest0To2() {
        sentence(23, "the fewest SUITS (0 to 2) that had better not be, so that no HOUSE is BROKE by that DAY");
        int[][] three = {{0, 0, 3}, {0, 1, 3}, {0, 2, 3}};
        drop("no HOUSES", new SoundPaid(), 29, 0, NONE, NONE);
        drop("no SUITS", threeCooks('0'), 29, 0, NONE, NONE);
        drop("5 of 9", threeCooks('9', three[0]), 0, 0, NONE, NONE);
        drop("10 of 9", threeCooks('9', three[0], three[1]), 0, 1, 0, NONE);
        drop("15 of 9", threeCooks('9', three), 0, 2, 0, 1);
        drop("15 of 4", threeCooks('4', three), 0, NONE, NONE, NONE);
    }

    static void promise23NoHouseIsBrokeByThatDay() {
        sentence(23, "so that no HOUSE is BROKE by that DAY");
        SoundPaid x = street("c5o0;o0c5", "c1", new int[] {3, 0, 1});
        drop("just its COINS", x, 3, 0, NONE, NONE);
        drop("the DAY behind it", x, 4, 1, 0, NONE);
        drop("the last DAY", x, 29, 1, 0, NONE);
        SoundPaid rich = street("c5o0;c9c4;o0c9", "c1", new int[] {0, 0, 1}, new int[] {1, 1, 2});
        is("rich by then", rich.balance(2, 1), 3);
        drop("BROKE ahead of it", rich, 1, 1, 0, NONE);
        SoundPaid last = street("c5o0;o0c4", "c1", new int[] {29, 0, 1});
        drop("not by DAY 28", last, 28, 0, NONE, NONE);
        drop("by DAY 29", last, 29, 1, 0, NONE);
        SoundPaid first = street("o0c0;c5o0", "c1", new int[] {0, 1, 0});
        drop("the first HOUSE", first, 0, 1, 0, NONE);
        SoundPaid others = street("o0o0;c5o0;o0c0;o0o0", "c1", new int[] {0, 1, 2});
        drop("any HOUSE", others, 0, 1, 0, NONE);
        others.shut(0, 1);
        drop("while the other is SHUT", others, 0, 0, NONE, NONE);
        others.shut(1, 2);
        drop("while it is SHUT itself", others, 1, 1, 0, NONE);
    }

    static void promise23OfLikeOnesTheLeastRow() {
        sentence(23, "of like ones the least row (each more than the one ahead): how many; the i-th; NONE.");
        int[][] three = {{0, 0, 3}, {0, 1, 3}, {0, 2, 3}};
        drop("one of two", threeCooks('5', three[0], three[1]), 0, 1, 0, NONE);
        drop("two of three", threeCooks('5', three), 0, 2, 0, 1);
        int[] idle = {29, 3, 0};
        drop("1 and 2, not 0", threeCooks('5', idle, three[0], three[1], three[2]), 0, 2, 1, 2);
        SoundPaid single = street("c9o0;o0c4;o0c9", "c1", new int[] {0, 0, 2}, new int[] {9, 0, 2}, new int[] {0, 0, 1});
        drop("one alone ahead of two", single, 0, 1, 2, NONE);
    }

    static void promise23SuitsFrom0On() {
        sentence(23, "SUITS, 12 at most (0 on)");
        SoundPaid x = street("c5o0;o0c4", "c1");
        for (int n = 0; n < 10; n++) x.suit(0, 1, 0);
        x.suit(0, 0, 1);
        drop("the eleventh", x, 0, 1, 10, NONE);
        x.suit(0, 0, 1);
        drop("the last two of twelve", x, 0, 2, 10, 11);
        is("none is dropped", x.count(4), 12);
    }

    static void promise23Bad() {
        sentence(23, "DROP: how many (i = NONE), the i-th (0, 1; NONE); NONE. BAD.");
        SoundPaid x = street("c5o0;o0c4", "c1", new int[] {0, 0, 1});
        range("drop(day, NONE)", 0, 29, BAD, day -> x.drop(day, NONE));
        range("drop(0, i)", -1, 1, BAD, i -> x.drop(0, i));
        SoundPaid none = new SoundPaid();
        range("drop(0, i) of none", -1, 1, BAD, i -> none.drop(0, i));
    }
}
