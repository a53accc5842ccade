/** Promises 24 to 30 at their edges, sentence by sentence: what was seen, what to ask, courts, months. */
public final class EdgeSeenTest extends Edges {
    public static void main(String[] args) throws Exception {
        run(EdgeSeenTest.class);
    }

    // ---- what was seen.

    static void promise24EightAtMost() {
        sentence(24, "SEEN, 8 at most: behind a DAY the BALANCE of a HOUSE (0 to 7) was so much (-999 to 999).");
        SoundPaid x = street("c5o0;o0c0", "c1", new int[] {0, 0, 1});
        for (int n = 1; n <= 7; n++) is("seen " + n, x.seen(29, 0, 0), n);
        is("seven come out so", x.never(), 1);
        is("the eighth", x.seen(0, 1, 1), 8);
        is("it counts", x.never(), 0);
        is("a ninth", x.seen(0, 0, 0), FULL);
        is("eight", x.count(7), 8);
    }

    static void promise24Houses0To7() {
        sentence(24, "behind a DAY the BALANCE of a HOUSE (0 to 7) was so much");
        SoundPaid x = new SoundPaid();
        range("seen(0, house, 0)", 0, 7, BAD, house -> x.seen(0, house, 0));
        is("two, without HOUSES", x.count(7), 2);
    }

    static void promise24SoMuch() {
        sentence(24, "was so much (-999 to 999)");
        SoundPaid x = street("c9o0;o0c0", "c9", new int[] {0, 0, 1});
        range("seen(0, 0, much)", -999, 999, BAD, much -> x.seen(0, 0, much));
        is("two", x.count(7), 2);
        SoundPaid much = street("m9o0;m2m0", "m3", new int[] {1, 0, 1}, new int[] {0, 1, 0});
        is("27 a DAY", much.balance(29, 0), 783);
        much.seen(29, 0, 783);
        is("more than a byte holds", much.never(), 2);
        much.forget();
        much.seen(29, 1, -783);
        is("below 0", much.never(), 2);
    }

    static void promise24Days() {
        sentence(24, "DAYS are 0 to 29.");
        SoundPaid x = new SoundPaid();
        range("seen(day, 0, 0)", 0, 29, BAD, day -> x.seen(day, 0, 0));
        SoundPaid told = street("c5o0;o0c0", "c1", new int[] {0, 0, 1}, new int[] {29, 0, 1});
        told.seen(28, 0, 0);
        is("DAY 28", told.never(), 1);
        told.seen(29, 0, 5);
        is("DAY 29", told.never(), 1);
        told.seen(0, 0, 5);
        is("DAY 0", told.never(), 0);
    }

    static void promise25AllAreForgotten() {
        sentence(25, "All SEEN are forgotten: how many.");
        SoundPaid x = street("c5o0;o0c0", "c1", new int[] {0, 0, 1});
        is("none", x.forget(), 0);
        for (int n = 0; n < 8; n++) x.seen(0, 0, 7);
        is("no SUIT makes them come out so", x.never(), 0);
        is("all eight", x.forget(), 8);
        is("none are left", x.forget(), 0);
        is("count(7)", x.count(7), 0);
        is("nothing is in the way", x.never(), 1);
        is("room again", x.seen(0, 0, 7), 1);
    }

    // ---- which suit never was, how much leaked.

    static void promise26HadItAloneNotBeen() {
        sentence(26, "NEVER: SUITS each of which, had it alone not been, makes all that was SEEN come out so, as bits");
        is("no SUITS", new SoundPaid().never(), 0);
        SoundPaid x = street("c5o0;o0c0;c3o0", "c1", new int[] {0, 0, 1}, new int[] {0, 2, 1});
        is("nothing SEEN", x.never(), 3);
        x.seen(0, 1, -8);
        is("by both of them", x.never(), 0);
        x.forget();
        x.seen(0, 1, 0);
        is("by none of them", x.never(), 0);
        x.forget();
        x.seen(0, 1, -3);
        is("the first", x.never(), 1);
        x.seen(0, 0, 5);
        is("not all that was SEEN", x.never(), 0);
        x.forget();
        x.suit(0, 0, 1);
        x.seen(0, 0, 5);
        is("each of three: a like one stands for it", x.never(), 7);
    }

    static void promise26TwelveBits() {
        sentence(26, "SUITS, 12 at most (0 on)");
        SoundPaid x = street("c5o0;o0c0", "c1");
        for (int n = 0; n < 11; n++) x.suit(5, 1, 0);
        x.suit(0, 0, 1);
        is("all twelve", x.never(), 4095);
        x.seen(0, 0, 0);
        is("the last of twelve", x.never(), 2048);
        x.forget();
        x.seen(0, 0, 5);
        is("all but the last", x.never(), 2047);
    }

    static void promise26OfAHouseThatThereIsNot() {
        sentence(26, "as bits (of a HOUSE that there is not nothing ever comes out so)");
        SoundPaid x = street("c5o0;o0c0", "c1", new int[] {0, 0, 1}, new int[] {0, 0, 2});
        x.seen(0, 2, 0);
        is("the next one", x.never(), 0);
        x.forget();
        x.seen(0, 7, 0);
        is("the last one", x.never(), 0);
        x.forget();
        x.seen(0, 1, 0);
        is("the last that there is", x.never(), 1);
        x.wipe(0);
        is("without HOUSES", x.never(), 0);
        x.forget();
        is("without HOUSES, nothing SEEN", x.never(), 3);
    }

    static void promise27HowMuch0To9() {
        sentence(27, "LEAKED of a HOUSE: how much (0 to 9), in place of its own, likewise, as bits.");
        SoundPaid x = street("c5o0;o0c0", "c1", new int[] {0, 0, 1});
        is("nothing SEEN", x.leaked(0), 1023);
        x.seen(0, 0, 9);
        is("9", x.leaked(0), 512);
        x.forget();
        x.seen(0, 0, 0);
        is("0", x.leaked(0), 1);
        x.forget();
        x.seen(0, 0, 10);
        is("10", x.leaked(0), 0);
        x.forget();
        x.seen(0, 0, 4);
        x.seen(1, 0, 10);
        is("not all that was SEEN", x.leaked(0), 0);
        is("its own stays", x.house(0, 1), 5);
        is("its own stays", x.balance(0, 0), 5);
    }

    static void promise27OnesThatAreAlike() {
        sentence(27, "LEAKED of a HOUSE: how much (0 to 9), in place of its own, likewise, as bits.");
        SoundPaid x = street("c9o0;o3o0;o0c0", "c1", new int[] {0, 0, 2});
        x.seen(0, 0, 0);
        is("0 to 2 come to 0", x.leaked(0), 7);
        is("another's", x.leaked(1), 0);
        x.forget();
        x.seen(0, 0, 7);
        is("from it nothing LEAKS", x.leaked(1), 1023);
        is("nor from this one", x.leaked(2), 1023);
    }

    static void promise27OfAHouseThatThereIsNot() {
        sentence(27, "(of a HOUSE that there is not nothing ever comes out so)");
        SoundPaid x = street("c5o0;o0c0", "c1");
        x.seen(0, 1, 0);
        is("the last that there is", x.leaked(0), 1023);
        x.seen(0, 2, 0);
        is("the next one", x.leaked(0), 0);
    }

    static void promise27Bad() {
        sentence(27, "LEAKED, as bits. BAD.");
        SoundPaid x = street("c5o0;o0c0", "c1");
        range("leaked(house)", 0, 1, BAD, house -> x.leaked(house));
        is("without HOUSES", new SoundPaid().leaked(0), BAD);
    }

    // ---- the next to ask.

    static void promise28OfLikeOnesTheLeast() {
        sentence(28, "by which its BALANCE is alike behind it is least, of like ones the least");
        SoundPaid x = street("o0o0;c5o0;o0c0;c3o0", "c1");
        is("no SUITS", x.ask(29), 0);
        x.suit(1, 1, 2);
        is("one SUIT", x.ask(29), 0);
        x.suit(1, 3, 2);
        is("all are alike ahead of them", x.ask(0), 0);
        is("1 and 2 tell them apart", x.ask(1), 1);
        x.suit(1, 0, 3);
        is("2 alone tells all three apart", x.ask(1), 2);
        is("behind the last DAY, too", x.ask(29), 2);
    }

    static void promise28OfThoseSuits() {
        sentence(28, "ASK of a DAY: the HOUSE of which the greatest number of those SUITS");
        SoundPaid x = street("o0o0;c5o0;o0c0;c3o0", "c1", new int[] {1, 1, 2}, new int[] {1, 3, 2});
        is("both", x.ask(1), 1);
        x.seen(1, 2, -5);
        is("one of them is left", x.ask(1), 0);
        x.seen(1, 2, -6);
        is("none of them is left", x.ask(1), 0);
    }

    static void promise28GreatestNumber() {
        sentence(28, "the HOUSE of which the greatest number of those SUITS by which its BALANCE is alike behind it is least");
        SoundPaid x = street("c9o0;o0c0;c9o0;o0c0;o0c0", "c1");
        int[][] suits = {{0, 0, 1}, {0, 0, 1}, {0, 0, 1}, {0, 2, 1}, {0, 2, 3}};
        for (int[] row : suits) x.suit(row[0], row[1], row[2]);
        is("0: five alike; 1: four and one; 2: three and two", x.ask(0), 2);
    }

    static void promise28None() {
        sentence(28, "of like ones the least; NONE: there are no HOUSES.");
        SoundPaid x = street("c5c0;", "", new int[] {0, 0, 1});
        is("no HOUSES", new SoundPaid().ask(0), NONE);
        is("none by a FAULT", x.ask(29), NONE);
        x.undo(0);
        is("one", x.ask(29), 0);
    }

    static void promise28Bad() {
        sentence(28, "`int ask(int day)`: ASK; NONE. BAD.");
        SoundPaid x = street("c5o0;o0c0", "c1");
        range("ask(day)", 0, 29, BAD, day -> x.ask(day));
        SoundPaid none = new SoundPaid();
        range("ask(day) of none", 0, 29, BAD, day -> none.ask(day));
    }

    // ---- suits thrown out by chance.

    private static void court(String about, SoundPaid x, int c, int day, int house, long above, long below) {
        is(about + ": above", x.court(c, day, house, 0), above);
        is(about + ": below", x.court(c, day, house, 1), below);
    }

    static void promise29Sixteenths0To16() {
        sentence(29, "COURT: each SUIT stands by c sixteenths (0 to 16), by itself");
        SoundPaid x = street("c5o0;o0c0", "c1", new int[] {0, 0, 1});
        court("0", x, 0, 0, 0, 0, 1);
        court("1", x, 1, 0, 0, 1, 16);
        court("15", x, 15, 0, 0, 15, 16);
        court("16", x, 16, 0, 0, 1, 1);
        range("court(c, 0, 0, 0)", 0, 16, LONG_BAD, c -> x.court(c, 0, 0, 0));
        x.suit(0, 0, 1);
        court("either of two", x, 8, 0, 0, 3, 4);
    }

    static void promise29EachByItself() {
        sentence(29, "each SUIT stands by c sixteenths (0 to 16), by itself");
        SoundPaid x = street("c5c0;c4c0;c3c0", "c1", new int[] {0, 1, 2}, new int[] {0, 2, 1});
        court("4 less 3", x, 8, 0, 1, 1, 2);
        court("3 less 4", x, 8, 0, 2, 1, 4);
        court("others' are nothing to it", x, 8, 0, 0, 0, 1);
        x.suit(0, 0, 1);
        court("4 less 3 and less 5: the first alone, or with the second", x, 8, 0, 1, 1, 4);
        x.suit(0, 1, 0);
        court("4 and 4, less 3 and less 5", x, 8, 0, 1, 7, 16);
        court("5 less 4", x, 16, 0, 0, 1, 1);
        x = street("c5c0;c4c0;c3c0", "c1", new int[] {0, 2, 1}, new int[] {0, 2, 1}, new int[] {0, 1, 2});
        court("3 once, less 4", x, 16, 0, 2, 0, 1);
        court("4, less 3 once", x, 16, 0, 1, 1, 1);
        String wide = "m9m0;m9m0;m9m0;m9m0;m9m0;m9m0;m9m0;m9m0";
        court("6 less 7", street(wide, "m1", new int[] {0, 3, 7}, new int[] {0, 0, 3}), 16, 0, 3, 0, 1);
        court("9 less 9", street(wide, "m1", new int[] {0, 4, 3}, new int[] {0, 5, 4}), 16, 0, 4, 0, 1);
    }

    static void promise29Above0() {
        sentence(29, "the chance that the BALANCE of a HOUSE behind a DAY is above 0: a FRACTION.");
        SoundPaid x = street("c5c0;c5c0", "c1", new int[] {1, 0, 1}, new int[] {1, 1, 0});
        court("0 is not above 0", x, 16, 1, 0, 0, 1);
        court("one stands, the other does not", x, 4, 1, 1, 3, 16);
        court("ahead of them", x, 8, 0, 0, 0, 1);
        SoundPaid one = street("c1o0;o0c0", "c1", new int[] {29, 0, 1});
        court("1 is above 0", one, 16, 29, 0, 1, 1);
        court("the last DAY but one", one, 16, 28, 0, 0, 1);
        court("1 below 0", one, 16, 29, 1, 0, 1);
    }

    static void promise29LowestTerms() {
        sentence(29, "FRACTIONS are told in lowest terms, above and below (0 by 1).");
        SoundPaid none = street("c5c0", "c1");
        court("no SUITS", none, 8, 29, 0, 0, 1);
        SoundPaid x = street("c5o0;o0c0", "c1", new int[] {0, 0, 1});
        int[][] terms = {{0, 1}, {1, 16}, {1, 8}, {3, 16}, {1, 4}, {5, 16}, {3, 8}, {7, 16}, {1, 2}, {9, 16}, {5, 8},
            {11, 16}, {3, 4}, {13, 16}, {7, 8}, {15, 16}, {1, 1}};
        for (int c = 0; c <= 16; c++) court(c + " sixteenths", x, c, 0, 0, terms[c][0], terms[c][1]);
    }

    static void promise29OfTwelve() {
        sentence(29, "SUITS, 12 at most (0 on)");
        SoundPaid x = street("c5o0;o0c0", "c1");
        for (int n = 0; n < 12; n++) x.suit(0, 0, 1);
        long all = 1;
        long none = 1;
        for (int n = 0; n < 12; n++) {
            all *= 16;
            none *= 15;
        }
        court("one of twelve at least", x, 1, 0, 0, all - none, all);
        court("all stand", x, 16, 0, 0, 1, 1);
        court("none stands", x, 0, 0, 0, 0, 1);
        court("half of all", x, 8, 0, 0, 4095, 4096);
    }

    static void promise29Bad() {
        sentence(29, "COURT: above, below. BAD. (A refusal -x is the least long and x more.)");
        SoundPaid x = street("c5c0;c5c0", "c1", new int[] {0, 0, 1});
        range("court(8, day, 0, 1)", 0, 29, LONG_BAD, day -> x.court(8, day, 0, 1));
        range("court(8, 0, house, 0)", 0, 1, LONG_BAD, house -> x.court(8, 0, house, 0));
        range("court(8, 0, 0, what)", 0, 1, LONG_BAD, what -> x.court(8, 0, 0, what));
        is("no HOUSES", new SoundPaid().court(8, 0, 0, 0), LONG_BAD);
    }

    // ---- other months.

    /** House 0 has -3 behind day 0 if it is shut itself, 2 if house 1 is, 5 if house 2 is. */
    private static SoundPaid threeInARing() {
        return street("c5c0;c5c0;c5c0", "c1", new int[] {0, 0, 1}, new int[] {0, 1, 2}, new int[] {0, 2, 0});
    }

    static void promise30IntsThatWrap() {
        sentence(30, "LOTS of m: SEED becomes 1103515245 SEED and 12345, as ints that wrap");
        SoundPaid x = threeInARing();
        is("SEED 0: 12345, upper bits 0", x.month(0, 0, 0), -3);
        is("SEED 1: upper bits 16838", x.month(1, 0, 0), 5);
        is("SEED 2: upper bits 33676", x.month(2, 0, 0), 2);
        is("SEED -1: upper bits 48697", x.month(-1, 0, 0), 2);
        is("the greatest SEED: upper bits 15929", x.month(MOST, 0, 0), 5);
        is("the least SEED: upper bits 32768", x.month(LEAST, 0, 0), 5);
    }

    static void promise30NumberFrom0On() {
        sentence(30, "its upper 16 bits as a number from 0 on, modulo m");
        SoundPaid x = threeInARing();
        for (int seed : new int[] {2, -1, 3, 12345, LEAST, MOST, -99, 777}) {
            long next = Math.floorMod(1103515245L * seed + 12345, 1L << 32);
            int due = new int[] {-3, 2, 5}[(int) (next / 65536 % 3)];
            is("SEED " + seed, x.month(seed, 0, 0), due);
        }
    }

    static void promise30OfEightHouses() {
        sentence(30, "modulo m");
        SoundPaid x = street("m9m0;m9m0;m9m0;m9m0;m9m0;m9m0;m9m0;m9m0", "m1");
        for (int house = 0; house < 8; house++) x.suit(0, house, (house + 1) % 8);
        int shut = 0;
        for (int seed = 0; seed < 40; seed++) {
            int house = (int) (Math.floorMod(1103515245L * seed + 12345, 1L << 32) / 65536 % 8);
            shut |= 1 << house;
            is("SEED " + seed + ", SHUT and owing", x.month(seed, 0, house), house == 0 ? -3 : -9);
        }
        is("each was SHUT by a SEED", shut, 255);
    }

    static void promise30UpToTheToldDay() {
        sentence(30, "on each DAY from 0 on up to a told one (that one, too) a LOT of HOUSES: that one is SHUT then");
        SoundPaid x = street("c5o0;o0c0", "c1", new int[] {0, 0, 1});
        int open = 0;
        long seed = 7;
        for (int day = 0; day <= 29; day++) {
            seed = Math.floorMod(1103515245L * seed + 12345, 1L << 32);
            if (seed / 65536 % 2 == 1) open++;
            is("DAY " + day, x.month(7, day, 0), 5 * open);
        }
        SoundPaid one = street("c5o0", "c1");
        is("one HOUSE", one.month(7, 29, 0), 0);
    }

    static void promise30InPlaceOfWhatIsTold() {
        sentence(30, "that one is SHUT then, in place of what is told");
        SoundPaid x = threeInARing();
        x.shut(0, 0);
        x.shut(0, 1);
        is("2 alone is SHUT", x.month(1, 0, 0), 5);
        is("0 and 1 are SHUT when all is as told", x.balance(0, 0), -3);
        is("two are told", x.count(5), 2);
    }

    static void promise30NoLots() {
        sentence(30, "(no LOTS where there are none)");
        SoundPaid x = new SoundPaid();
        is("COIN of none", x.month(7, 29, NONE), 0);
        is("COIN of none behind DAY 0", x.month(LEAST, 0, NONE), 0);
        is("BALANCE of none", x.month(7, 29, 0), ANY_BAD);
        SoundPaid faulty = street("c5c0;c5c0;", "c1", new int[] {0, 0, 1});
        faulty.shut(0, 0);
        is("COIN with a FAULT", faulty.month(7, 29, NONE), 0);
        faulty.undo(0);
        is("what is told stays", faulty.coin(0), 0);
    }

    static void promise30Bad() {
        sentence(30, "MONTH: the BALANCE, COIN (house = NONE), as any number. BAD: -100002.");
        SoundPaid x = threeInARing();
        range("month(1, day, 0)", 0, 29, ANY_BAD, day -> x.month(1, day, 0));
        range("month(1, day, NONE)", 0, 29, ANY_BAD, day -> x.month(1, day, NONE));
        range("month(1, 0, house)", -1, 2, ANY_BAD, house -> x.month(1, 0, house));
        is("COIN", x.month(1, 0, NONE), 5);
        is("below 0", x.month(1, 0, 2), -5);
    }
}
