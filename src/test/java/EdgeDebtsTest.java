/** Promises 14 to 20 at their edges, sentence by sentence: debts, balances, coin, who is broke, payments, rings. */
public final class EdgeDebtsTest extends Edges {
    public static void main(String[] args) throws Exception {
        run(EdgeDebtsTest.class);
    }

    // ---- what one owes another one.

    static void promise14FromTheFirstSuitToThisDay() {
        sentence(14, "for each DAY from that of the first SUIT of that other one against it (by DAYS) to this one");
        SoundPaid x = street("c5o0;o0c0", "c1");
        is("no SUIT", x.owes(29, 1, 0), 0);
        x.suit(29, 0, 1);
        is("the DAY ahead of the last", x.owes(28, 1, 0), 0);
        is("the last DAY", x.owes(29, 1, 0), 5);
        x.suit(7, 0, 1);
        is("the DAY ahead", x.owes(6, 1, 0), 0);
        is("that DAY", x.owes(7, 1, 0), 5);
        is("one more", x.owes(8, 1, 0), 10);
        is("two SUITS, one debt", x.owes(29, 1, 0), 115);
        x.suit(7, 0, 1);
        is("a like one", x.owes(8, 1, 0), 10);
        x.suit(0, 0, 1);
        is("DAY 0", x.owes(0, 1, 0), 5);
        is("all DAYS", x.owes(29, 1, 0), 150);
    }

    static void promise14OfThatOtherOneAgainstIt() {
        sentence(14, "the first SUIT of that other one against it (by DAYS)");
        SoundPaid x = street("c5c0;c4c0;c3c0", "c1", new int[] {2, 0, 1}, new int[] {0, 2, 1}, new int[] {0, 0, 2});
        is("not by another's SUIT", x.owes(1, 1, 0), 0);
        is("by its own", x.owes(2, 1, 0), 5);
        is("not the other way", x.owes(29, 0, 1), 0);
        is("by SUIT 1", x.owes(0, 1, 2), 3);
        is("by SUIT 2", x.owes(0, 2, 0), 3);
    }

    static void promise14ButForThoseOnWhichItIsShut() {
        sentence(14, "but for those on which that other one is SHUT");
        SoundPaid x = street("c5c0;c5c0", "c1", new int[] {3, 0, 1});
        x.shut(2, 0);
        is("ahead of the SUIT", x.owes(4, 1, 0), 10);
        x.shut(3, 0);
        is("on its DAY", x.owes(3, 1, 0), 0);
        is("on the DAY behind it", x.owes(4, 1, 0), 5);
        x.shut(4, 0);
        is("on this DAY", x.owes(4, 1, 0), 0);
        x.shut(4, 0);
        is("twice on one DAY", x.owes(5, 1, 0), 5);
        x.shut(6, 1);
        is("the one that owes", x.owes(6, 1, 0), 10);
        x.shut(7, 0);
        is("behind this DAY", x.owes(6, 1, 0), 10);
        x.back(1);
        is("undone", x.owes(7, 1, 0), 15);
    }

    static void promise14IfItCounts() {
        sentence(14, "It counts, if that other one ENJOYS it.");
        int[][] both = {{0, 0, 1}, {0, 1, 0}};
        SoundPaid x = street("c5m0;c4c0", "c1;m1;h1", both);
        is("it enjoys it", x.owes(0, 1, 0), 5);
        is("it enjoys another", x.owes(0, 0, 1), 0);
        SoundPaid none = street("o5o0;o4o0", "c1;m1;h1", both);
        is("nothing leaks, nothing is enjoyed", none.owes(29, 0, 1), 0);
        is("nor the other way", none.owes(29, 1, 0), 0);
        SoundPaid kinds = street("c5o0;m4o0", "c1;m1;h1", both);
        is("it enjoys nothing", kinds.owes(29, 0, 1), 0);
    }

    static void promise14TimesRate() {
        sentence(14, "what comes THROUGH to it, if it counts, times RATE.");
        int[] suit = {0, 0, 1};
        is("RATE 0", street("c9o0;o0c0", "c0", suit).owes(29, 1, 0), 0);
        is("no RATE", street("c9o0;o0c0", "m9;h9", suit).owes(29, 1, 0), 0);
        is("RATE 9, for all DAYS", street("c9o0;o0c0", "c9", suit).owes(29, 1, 0), 2430);
        is("nothing comes THROUGH", street("c0o0;o0c0", "c9", suit).owes(29, 1, 0), 0);
        is("SOUND's own", street("m2o0;o0m0", "c9;m3;h9", suit).owes(0, 1, 0), 6);
        is("HEAT's own", street("h2o0;o0h0", "c9;m9;h4", suit).owes(0, 1, 0), 8);
    }

    static void promise14Bad() {
        sentence(14, "What a HOUSE OWES another one. BAD: also itself.");
        SoundPaid x = street("c9c0;c9c0;c9c0", "c1", new int[] {0, 0, 1});
        for (int house = 0; house < 3; house++) is("itself", x.owes(0, house, house), BAD);
        range("owes(day, 1, 0)", 0, 29, BAD, day -> x.owes(day, 1, 0));
        range("owes(0, house, 1)", 0, 2, BAD, house -> x.owes(0, house, 1));
        range("owes(0, 1, other)", 0, 2, BAD, other -> x.owes(0, 1, other));
    }

    // ---- balances and coin.

    static void promise15AllOthers() {
        sentence(15, "BALANCE of a HOUSE: what all others OWE it, less what it OWES them.");
        SoundPaid x = street("m9m0;m9m0;m9m0;m9m0;m9m0;m9m0;m9m0;m9m0", "m9");
        is("no SUITS", x.balance(29, 3), 0);
        for (int other = 0; other < 8; other++) x.suit(0, 3, other);
        int[] debts = {7, 8, 9, 0, 9, 8, 7, 6};
        is("the greatest, of seven others", x.balance(29, 3), 54 * 9 * 30);
        for (int other = 0; other < 8; other++) {
            if (other != 3) is("below 0", x.balance(29, other), -debts[other] * 270);
        }
        x.suit(0, 0, 3);
        is("less what it owes", x.balance(29, 3), 47 * 270);
        is("0 again", x.balance(29, 0), 0);
    }

    static void promise15OnesThatThereAreNot() {
        sentence(15, "on a DAY a HOUSE sues another one (0 to 7; unlike)");
        int[][] suits = {{0, 0, 2}, {0, 2, 1}, {0, 0, 7}, {0, 7, 1}, {0, 2, 7}};
        SoundPaid x = street("c9c0;c9c0;c9c0", "c1", suits);
        is("the third is there", x.balance(0, 0), 7);
        is("the third is there", x.balance(0, 1), -9);
        is("COIN", x.coin(0), 9);
        for (int n = 0; n < 5; n++) x.undo(0);
        is("the one that sues it", x.balance(29, 0), 0);
        is("the one that it sues", x.balance(29, 1), 0);
        is("COIN of the two", x.coin(29), 0);
        is("PAYMENTS of the two", x.payments(29), 0);
        is("no one is BROKE", x.drop(29, NONE), 0);
    }

    static void promise15OfTwelveSuits() {
        sentence(15, "SUITS, 12 at most (0 on)");
        SoundPaid x = street("m9m0;m9m0;m9m0;m9m0;m9m0;m9m0;m9m0;m9m0", "m1");
        for (int n = 0; n < 12; n++) x.suit(n, n % 8, (n + 1 + n / 8) % 8);
        for (int house = 0; house < 8; house++) {
            is("OWES", x.owes(house, (house + 1) % 8, house), house == 7 ? 3 : 9);
            is("OWES, the last four", x.owes(8 + house % 4, (house % 4 + 2) % 8, house % 4), 8);
        }
        is("the one whose SUITS are the first and the ninth", x.balance(11, 0), 12 * 9 + 4 * 8 - 5 * 3);
        is("the one whose SUIT is the last", x.balance(11, 3), 9 * 9 + 8 - 10 * 9 - 3 * 8);
        is("no three", x.rings(11, 0), 0);
    }

    static void promise15Bad() {
        sentence(15, "BALANCE, as any number. BAD: -100002.");
        SoundPaid x = street("c9c0;c9c0", "c1", new int[] {0, 0, 1});
        range("balance(day, 0)", 0, 29, ANY_BAD, day -> x.balance(day, 0));
        range("balance(0, house)", 0, 1, ANY_BAD, house -> x.balance(0, house));
        is("without HOUSES", new SoundPaid().balance(0, 0), ANY_BAD);
    }

    static void promise16AllAbove0() {
        sentence(16, "COIN behind a DAY: all BALANCES above 0 together.");
        is("no HOUSES", new SoundPaid().coin(29), 0);
        SoundPaid x = street("c5c0;c5c0;c5c0", "c1");
        is("no SUITS", x.coin(29), 0);
        x.suit(1, 0, 1);
        x.suit(1, 1, 0);
        is("all are 0", x.coin(29), 0);
        x.suit(1, 1, 2);
        is("the DAY ahead", x.coin(0), 0);
        is("one above 0", x.coin(1), 5);
        x.suit(1, 0, 2);
        is("two above 0", x.coin(1), 8);
    }

    static void promise16Bad() {
        sentence(16, "`int coin(int day)`: COIN. BAD.");
        SoundPaid x = street("c9c0;c9c0", "c1");
        range("coin(day)", 0, 29, BAD, day -> x.coin(day));
    }

    // ---- broke and richest.

    static void promise17ByMoreThanItsCoins() {
        sentence(17, "BROKE of a HOUSE: the first DAY behind which its BALANCE is less than 0 by more than its COINS");
        int[] suit = {0, 0, 1};
        is("0 of COINS, owes 1", street("c1o0;o0c0", "c1", suit).broke(1), 0);
        is("9 of COINS, owes 9, then 18", street("c9o0;o0c9", "c1", suit).broke(1), 1);
        is("8 of COINS, owes 9", street("c9o0;o0c8", "c1", suit).broke(1), 0);
        is("5 of COINS, owes 1 a DAY", street("c1o0;o0c5", "c1", suit).broke(1), 5);
        is("0 of COINS, owes 0", street("c0o0;o0c0", "c1", suit).broke(1), NONE);
        is("0 of COINS, is owed", street("c1o0;o0c0", "c1", suit).broke(0), NONE);
    }

    static void promise17FirstDay() {
        sentence(17, "BROKE of a HOUSE: the first DAY behind which");
        is("DAY 0", street("c1o0;o0c0", "c1", new int[] {0, 0, 1}).broke(1), 0);
        is("the last DAY", street("c1o0;o0c0", "c1", new int[] {29, 0, 1}).broke(1), 29);
        is("not by the last DAY", street("c1o0;o0c1", "c1", new int[] {29, 0, 1}).broke(1), NONE);
        SoundPaid x = street("c5o0;c9c4;o0c9", "c1", new int[] {2, 0, 1}, new int[] {3, 1, 2});
        is("rich again later", x.balance(29, 1) > 0 ? 1 : 0, 1);
        is("the first", x.broke(1), 2);
    }

    static void promise17None() {
        sentence(17, "by more than its COINS; NONE.");
        SoundPaid x = street("c5o0;o0c0", "c1");
        is("no SUITS", x.broke(1), NONE);
        x.suit(0, 0, 1);
        is("the one that sues", x.broke(0), NONE);
        is("the one that is sued", x.broke(1), 0);
    }

    static void promise17Bad() {
        sentence(17, "`int broke(int house)`: BROKE; NONE. BAD.");
        SoundPaid x = street("c5o0;o0c0", "c1");
        range("broke(house)", 0, 1, BAD, house -> x.broke(house));
        is("without HOUSES", new SoundPaid().broke(0), BAD);
    }

    static void promise18OfLikeOnesTheLeast() {
        sentence(18, "RICHEST behind a DAY: the HOUSE with the greatest BALANCE, of like ones the least; NONE.");
        is("all are 0", street("c5c0;c5c0;c5c0", "c1").richest(29), 0);
        int[][] fives = {{0, 1, 0}, {0, 3, 2}};
        is("1 and 3 are 5", street("o0c0;c5o0;o0c0;c5o0", "c1", fives).richest(0), 1);
        int[][] unlike = {{0, 1, 0}, {0, 3, 2}, {1, 3, 2}};
        SoundPaid x = street("o0c0;c5o0;o0c0;c6o0", "c1", unlike);
        is("1 is 5, 3 is 6", x.richest(0), 3);
        is("the last", street("o0c0;o0o0;c5o0", "c1", new int[] {0, 2, 0}).richest(0), 2);
        is("the first owes", street("o0c0;c1o0;o0o0", "c1", new int[] {0, 1, 0}).richest(0), 1);
        is("the first owes, all others are 0", street("o0c0;o0o0;o0o0", "c1", new int[] {0, 1, 0}).richest(0), 0);
        SoundPaid late = street("c5o0;o0c0;c6o0", "c1", new int[] {0, 0, 1}, new int[] {1, 2, 1});
        is("behind DAY 0", late.richest(0), 0);
        is("behind DAY 29", late.richest(29), 2);
    }

    static void promise18None() {
        sentence(18, "`int richest(int day)`: RICHEST; NONE. BAD.");
        SoundPaid none = new SoundPaid();
        is("no HOUSES", none.richest(0), NONE);
        range("richest(day) of none", 0, 29, BAD, day -> none.richest(day));
        SoundPaid one = street("c1c1", "c1");
        is("one HOUSE", one.richest(29), 0);
        range("richest(day) of one", 0, 29, BAD, day -> one.richest(day));
    }

    // ---- payments and rings.

    static void promise19TheFewest() {
        sentence(19, "PAYMENTS behind a DAY: the fewest, each from one HOUSE to another one, by which all BALANCES become 0.");
        is("no HOUSES", new SoundPaid().payments(29), 0);
        is("no SUITS", street("c5c0;c5c0", "c1").payments(29), 0);
        int[][] round = {{0, 0, 1}, {0, 1, 2}, {0, 2, 0}};
        SoundPaid ring = street("m5m0;m5m0;m6m0", "m1", round);
        is("a ring that is even", ring.payments(0), 0);
        SoundPaid one = street("c5c0;c5c0", "c1", new int[] {1, 0, 1});
        is("ahead of the SUIT", one.payments(0), 0);
        is("one", one.payments(1), 1);
        SoundPaid seven = street("m9m0;m9m0;m9m0;m9m0;m9m0;m9m0;m9m0;m9m0", "m1");
        for (int other = 1; other < 8; other++) seven.suit(0, 0, other);
        is("seven owe one", seven.payments(0), 7);
        int[][] pairs = {{0, 0, 1}, {0, 2, 3}, {0, 4, 5}, {0, 6, 7}};
        is("four twos", street("m9m0;m9m0;m9m0;m9m0;m9m0;m9m0;m9m0;m9m0", "m1", pairs).payments(0), 4);
    }

    static void promise19Bad() {
        sentence(19, "`int payments(int day)`: PAYMENTS. BAD.");
        SoundPaid x = street("c5c0;c5c0", "c1", new int[] {0, 0, 1});
        range("payments(day)", 0, 29, BAD, day -> x.payments(day));
        SoundPaid none = new SoundPaid();
        range("payments(day) of none", 0, 29, BAD, day -> none.payments(day));
    }

    static void promise20EachOwesTheNextOne() {
        sentence(20, "RINGS behind a DAY: threes of HOUSES of whom each OWES the next one, round");
        int[][] two = {{0, 0, 1}, {0, 1, 0}};
        is("two are no ring", street("c5c0;c5c0;c5c0", "c1", two).rings(29, 0), 0);
        int[][] open = {{0, 0, 1}, {0, 1, 2}, {0, 0, 2}};
        is("an open three", street("c5c0;c5c0;c5c0", "c1", open).rings(29, 0), 0);
        int[][] round = {{0, 0, 1}, {0, 1, 2}, {3, 2, 0}};
        SoundPaid x = street("c5c0;c5c0;c3c0", "c1", round);
        is("the DAY ahead", x.rings(2, 0), 0);
        is("that DAY", x.rings(3, 0), 1);
        x.wall(0, 1);
        is("one OWES 0", x.rings(29, 0), 0);
        int[][] four = {{0, 0, 1}, {0, 1, 2}, {0, 2, 3}, {0, 3, 0}};
        is("four are no ring", street("m5m0;m5m0;m5m0;m5m0", "m1", four).rings(29, 0), 0);
    }

    static void promise20OneWayOrTheOther() {
        sentence(20, "(one way or the other; by both, too, once): how many");
        int[][] oneWay = {{0, 0, 1}, {0, 1, 2}, {0, 2, 0}};
        int[][] theOther = {{0, 1, 0}, {0, 2, 1}, {0, 0, 2}};
        SoundPaid x = street("c5c0;c5c0;c5c0", "c1", oneWay);
        is("one way", x.rings(0, 0), 1);
        is("the other", street("c5c0;c5c0;c5c0", "c1", theOther).rings(0, 0), 1);
        for (int[] row : theOther) x.suit(row[0], row[1], row[2]);
        is("both, once", x.rings(0, 0), 1);
        is("which", x.rings(0, 1), 8 + 2);
    }

    static void promise20TheLeast() {
        sentence(20, "the least, as 64 times the least, 8 times the middle one and the greatest; NONE.");
        SoundPaid x = street("m9m0;m9m0;m9m0;m9m0;m9m0;m9m0;m9m0;m9m0", "m1");
        is("NONE", x.rings(29, 1), NONE);
        is("0", x.rings(29, 0), 0);
        int[][] last = {{0, 7, 5}, {0, 5, 6}, {0, 6, 7}};
        for (int[] row : last) x.suit(row[0], row[1], row[2]);
        is("5, 6 and 7", x.rings(0, 1), 64 * 5 + 8 * 6 + 7);
        int[][] ahead = {{1, 4, 1}, {1, 1, 7}, {1, 7, 4}};
        for (int[] row : ahead) x.suit(row[0], row[1], row[2]);
        is("two", x.rings(1, 0), 2);
        is("1, 4 and 7 are the least", x.rings(1, 1), 64 + 8 * 4 + 7);
        int[][] first = {{2, 0, 7}, {2, 7, 6}, {2, 6, 0}};
        for (int[] row : first) x.suit(row[0], row[1], row[2]);
        is("three", x.rings(2, 0), 3);
        is("0, 6 and 7 are the least", x.rings(2, 1), 8 * 6 + 7);
        is("no HOUSES", new SoundPaid().rings(0, 1), NONE);
    }

    static void promise20Bad() {
        sentence(20, "RINGS: how many (what = 0), the least (1; NONE). BAD.");
        SoundPaid x = street("c5c0;c5c0;c5c0", "c1");
        range("rings(day, 0)", 0, 29, BAD, day -> x.rings(day, 0));
        range("rings(day, 1)", 0, 29, BAD, day -> x.rings(day, 1));
        range("rings(0, what)", 0, 1, BAD, what -> x.rings(0, what));
    }
}
