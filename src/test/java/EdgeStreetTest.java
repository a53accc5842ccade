/** Promises 8 to 13 at their edges, sentence by sentence: walls, suits, days on which a house is shut, what comes through. */
public final class EdgeStreetTest extends Edges {
    private static final String EIGHT_OF_SMELL = "c9c0;c9c0;c9c0;c9c0;c9c0;c9c0;c9c0;c9c0";
    private static final String EIGHT_OF_SOUND = "m9m0;m9m0;m9m0;m9m0;m9m0;m9m0;m9m0;m9m0";

    public static void main(String[] args) throws Exception {
        run(EdgeStreetTest.class);
    }

    // ---- walls.

    static void promise08Walls0To6() {
        sentence(8, "WALLS: between a HOUSE and the next one (0 to 6) one is so THICK (0 to 9; 0 at first).");
        SoundPaid x = new SoundPaid();
        for (int wall = 0; wall <= 6; wall++) is("at first " + wall, x.wall(wall, 9), 0);
        for (int wall = 0; wall <= 6; wall++) is("then " + wall, x.wall(wall, wall), 9);
        for (int wall = 0; wall <= 6; wall++) is("each its own " + wall, x.wall(wall, 0), wall);
        range("wall(w, 1)", 0, 6, BAD, wall -> x.wall(wall, 1));
        is("walls 0 and 6 are 1, no others", x.count(6), 2);
    }

    static void promise08Thick0To9() {
        sentence(8, "one is so THICK (0 to 9; 0 at first)");
        SoundPaid x = new SoundPaid();
        x.wall(3, 4);
        for (int thick : new int[] {-1, 10, LEAST, MOST}) {
            is("wall(3, " + thick + ")", x.wall(3, thick), BAD);
            is("as it was", x.count(6), 4);
        }
        is("9", x.wall(3, 9), 4);
        is("0", x.wall(3, 0), 9);
        is("0 again", x.wall(3, 0), 0);
    }

    static void promise08HowThickItWas() {
        sentence(8, "How THICK a WALL (0 to 6) was. BAD.");
        SoundPaid x = street("c1c1", "");
        is("a place for no HOUSES", x.wall(6, 5), 0);
        is("it was", x.wall(6, 5), 5);
        x.wipe(0);
        is("it stays without HOUSES", x.wall(6, 0), 5);
        is("wall and thick are BAD", x.wall(7, 10), BAD);
    }

    static void promise08BetweenAHouseAndTheNextOne() {
        sentence(8, "WALLS: between a HOUSE and the next one (0 to 6)");
        for (int wall = 0; wall <= 6; wall++) {
            SoundPaid x = street(EIGHT_OF_SMELL, "");
            x.wall(wall, 3);
            for (int house = 0; house < 7; house++) {
                is("wall " + wall + " up", x.through(house, house + 1), house == wall ? 6 : 9);
                is("wall " + wall + " down", x.through(house + 1, house), house == wall ? 6 : 9);
            }
        }
    }

    // ---- suits.

    static void promise09TwelveAtMost() {
        sentence(9, "SUITS, 12 at most (0 on)");
        SoundPaid x = street("c5o0;o0c0", "c1");
        for (int n = 1; n <= 11; n++) is("suit " + n, x.suit(29, 1, 0), n);
        is("the twelfth", x.suit(0, 0, 1), 12);
        is("it counts", x.balance(0, 0), 5);
        is("a thirteenth", x.suit(0, 0, 1), FULL);
        is("twelve", x.count(4), 12);
        is("one less", x.back(0), 11);
        is("room again", x.suit(0, 0, 1), 12);
    }

    static void promise09Days() {
        sentence(9, "DAYS are 0 to 29.");
        SoundPaid x = street("c5o0;o0c0", "c1");
        range("suit(day, 0, 1)", 0, 29, BAD, day -> x.suit(day, 0, 1));
        is("two", x.count(4), 2);
    }

    static void promise09Houses0To7() {
        sentence(9, "on a DAY a HOUSE sues another one (0 to 7; unlike)");
        SoundPaid x = new SoundPaid();
        range("suit(0, house, 3)", 0, 7, BAD, house -> x.suit(0, house, 3));
        range("suit(0, 3, other)", 0, 7, BAD, other -> x.suit(0, 3, other));
        is("four, without HOUSES", x.count(4), 4);
    }

    static void promise09AgainstItself() {
        sentence(9, "A SUIT more: how many. BAD: also against itself; FULL.");
        SoundPaid x = street(EIGHT_OF_SMELL, "c1");
        for (int house = 0; house <= 7; house++) is("suit(0, h, h) of " + house, x.suit(0, house, house), BAD);
        is("none", x.count(4), 0);
        is("one", x.suit(0, 7, 6), 1);
        is("a like one is one more", x.suit(0, 7, 6), 2);
    }

    // ---- days on which a house is shut.

    static void promise10EightAtMost() {
        sentence(10, "SHUT, 8 at most (0 on)");
        SoundPaid x = street("c5o0;o0c0", "c1", new int[] {0, 0, 1});
        for (int n = 1; n <= 7; n++) is("shut " + n, x.shut(29, 1), n);
        is("the eighth", x.shut(0, 0), 8);
        is("it counts", x.balance(0, 0), 0);
        is("a ninth", x.shut(1, 0), FULL);
        is("it does not count", x.balance(1, 0), 5);
        is("eight", x.count(5), 8);
        is("one less", x.back(1), 7);
        is("room again", x.shut(1, 0), 8);
    }

    static void promise10Days() {
        sentence(10, "DAYS are 0 to 29.");
        SoundPaid x = street("c5o0;o0c0", "c1");
        range("shut(day, 0)", 0, 29, BAD, day -> x.shut(day, 0));
        is("two", x.count(5), 2);
    }

    static void promise10Houses0To7() {
        sentence(10, "SHUT more: how many. BAD; FULL.");
        SoundPaid x = new SoundPaid();
        range("shut(0, house)", 0, 7, BAD, house -> x.shut(0, house));
        is("two, without HOUSES", x.count(5), 2);
    }

    static void promise10NothingLeaks() {
        sentence(10, "on a DAY nothing LEAKS from a HOUSE");
        SoundPaid x = street("c5o0;o0c0", "c1", new int[] {0, 0, 1});
        x.shut(0, 0);
        is("day 0", x.owes(0, 1, 0), 0);
        is("day 1", x.owes(1, 1, 0), 5);
        x.shut(29, 0);
        is("day 28", x.owes(28, 1, 0), 140);
        is("day 29", x.owes(29, 1, 0), 140);
        x.shut(5, 1);
        is("from the one that owes nothing leaks anyhow", x.owes(5, 1, 0), 25);
        x.shut(6, 7);
        is("one that there is not", x.owes(6, 1, 0), 30);
    }

    // ---- suits and days undone, suits read.

    static void promise11NoneLeft() {
        sentence(11, "BAD; NOT: there is none.");
        SoundPaid x = new SoundPaid();
        is("no SUIT", x.back(0), NOT);
        is("no SHUT", x.back(1), NOT);
        x.suit(0, 0, 1);
        is("a SUIT is no SHUT", x.back(1), NOT);
        is("the only SUIT", x.back(0), 0);
        is("none is left", x.back(0), NOT);
        x.shut(0, 0);
        is("a SHUT is no SUIT", x.back(0), NOT);
        is("the only SHUT", x.back(1), 0);
        is("none is left", x.back(1), NOT);
    }

    static void promise11What() {
        sentence(11, "The last SUIT (what = 0), SHUT (1) is undone: how many are left. BAD; NOT: there is none.");
        SoundPaid x = street("", "", new int[] {0, 0, 1});
        x.shut(0, 0);
        range("back(what)", 0, 1, BAD, what -> x.back(what));
        is("no SUITS", x.count(4), 0);
        is("no SHUT", x.count(5), 0);
    }

    static void promise11TheLast() {
        sentence(11, "The last SUIT (what = 0), SHUT (1) is undone: how many are left.");
        SoundPaid x = street("c5o0;o0c0", "c1", new int[] {0, 0, 1}, new int[] {9, 1, 0}, new int[] {3, 0, 1});
        x.shut(0, 0);
        x.shut(1, 0);
        is("SUITS", x.back(0), 2);
        is("SUITS", x.back(0), 1);
        is("SHUT", x.back(1), 1);
        is("the first ones stay", x.balance(1, 0), 5);
        for (int n = 2; n <= 12; n++) x.suit(29, 1, 0);
        is("of twelve", x.back(0), 11);
    }

    static void promise12AsManyAsAreWhole() {
        sentence(12, "its items, three for each, as many as are whole");
        int[] whole = {0, 0, 0, 1, 1, 1, 2, 2, 2, 3};
        for (int size = 0; size < whole.length; size++) {
            SoundPaid x = new SoundPaid();
            x.sheet(0, BYTES, size);
            for (int i = 1; i < size; i += 3) x.put(0, BYTES, i, 1);
            is(size + " items", x.read(0), whole[size]);
            is("SUITS", x.count(4), whole[size]);
        }
    }

    static void promise12UpToTheFirstThatItRefuses() {
        sentence(12, "one by one as suit() takes them, up to the first that it refuses: how many it took.");
        int[][] refused = {{30, 0, 1}, {-1, 0, 1}, {0, 8, 1}, {0, -1, 1}, {0, 0, 8}, {0, 0, -1}, {0, 4, 4}};
        for (int[] row : refused) {
            SoundPaid x = new SoundPaid();
            fill(x, 0, INTS, 0, 0, 1, row[0], row[1], row[2], 0, 0, 1);
            is("the second is refused", x.read(0), 1);
            is("SUITS", x.count(4), 1);
            fill(x, 0, INTS, row[0], row[1], row[2], 0, 0, 1);
            is("the first is refused", x.read(0), 0);
            is("SUITS", x.count(4), 1);
        }
        SoundPaid x = new SoundPaid();
        fill(x, 3, SHORTS, 29, 7, 0, 0, 0, 7);
        is("none is refused", x.read(3), 2);
    }

    static void promise12UpToFull() {
        sentence(12, "up to the first that it refuses: how many it took. BAD; NULL.");
        SoundPaid x = new SoundPaid();
        int[] many = new int[60];
        for (int i = 2; i < 60; i += 3) many[i] = 1;
        fill(x, 0, BYTES, many);
        is("twelve of twenty", x.read(0), 12);
        is("none more", x.read(0), 0);
        is("SUITS", x.count(4), 12);
        x.back(0);
        is("one more", x.read(0), 1);
        is("no FINDING", x.count(8), 0);
    }

    static void promise12BehindThoseThatThereAre() {
        sentence(12, "SUITS more, behind those that there are, from a SHEET");
        SoundPaid x = street("c5o0;o0c0", "c1", new int[] {0, 0, 1});
        fill(x, 0, BYTES, 0, 1, 0, 5, 1, 0);
        is("two", x.read(0), 2);
        is("three", x.count(4), 3);
        x.back(0);
        x.back(0);
        is("the first stays", x.balance(0, 0), 5);
    }

    static void promise12Bad() {
        sentence(12, "how many it took. BAD; NULL.");
        SoundPaid x = new SoundPaid();
        range("read(s)", 0, 3, BAD, s -> x.read(s));
        for (int s = 0; s < 4; s++) is("read(" + s + ") of a LOST one", x.read(s), NULL);
        is("the FINDING", x.count(8), 1);
        x.sheet(2, INTS, 0);
        is("no items are not LOST", x.read(2), 0);
    }

    // ---- what comes through.

    static void promise13Smell() {
        sentence(13, "SMELL: 2 for each HOUSE between, and how THICK all WALLS between are together");
        SoundPaid x = street(EIGHT_OF_SMELL, "");
        int[] open = {0, 9, 7, 5, 3, 1, 0, 0};
        for (int other = 1; other < 8; other++) is("open, to " + other, x.through(0, other), open[other]);
        for (int other = 1; other < 8; other++) is("open, back from " + other, x.through(other, 0), open[other]);
        x.wall(0, 1);
        x.wall(1, 3);
        x.wall(2, 1);
        is("one WALL", x.through(0, 1), 8);
        is("two WALLS", x.through(0, 2), 3);
        is("three WALLS", x.through(0, 3), 0);
        is("WALLS beside them are not between", x.through(3, 4), 9);
        is("nor is one ahead", x.through(1, 2), 6);
    }

    static void promise13Sound() {
        sentence(13, "SOUND: 1 for each HOUSE between, and half of each WALL's (cut)");
        SoundPaid x = street(EIGHT_OF_SOUND, "");
        int[] open = {0, 9, 8, 7, 6, 5, 4, 3};
        for (int other = 1; other < 8; other++) is("open, to " + other, x.through(0, other), open[other]);
        for (int other = 1; other < 8; other++) is("open, back from " + other, x.through(other, 0), open[other]);
        x.wall(0, 1);
        x.wall(1, 1);
        is("half of 1 is cut", x.through(0, 1), 9);
        is("each one by itself", x.through(0, 2), 8);
        x.wall(0, 9);
        is("half of 9 is cut", x.through(0, 1), 5);
        x.wall(1, 8);
        is("half of 9, half of 8, a HOUSE", x.through(2, 0), 0);
        is("half of 8", x.through(2, 1), 5);
        is("beside it", x.through(2, 3), 9);
    }

    static void promise13Heat() {
        sentence(13, "HEAT: all, where there is a HOUSE, or a WALL that is THICK by 1 or more, between");
        SoundPaid x = street("h9h0;h9h0;h9h0", "");
        is("nothing between", x.through(0, 1), 9);
        is("a HOUSE between", x.through(0, 2), 0);
        is("a HOUSE between, back", x.through(2, 0), 0);
        x.wall(0, 1);
        is("THICK by 1", x.through(0, 1), 0);
        is("THICK by 1, back", x.through(1, 0), 0);
        is("beside it", x.through(1, 2), 9);
        x.wall(0, 0);
        x.wall(1, 9);
        is("THICK by 0", x.through(0, 1), 9);
        is("THICK by 9", x.through(2, 1), 0);
    }

    static void promise13AtLeast0() {
        sentence(13, "between; 0 at least.");
        SoundPaid x = street("c3m0;m2c0;h0h0;o9o0;c0c0;m0m0", "");
        x.wall(0, 3);
        is("SMELL, just 0", x.through(0, 1), 0);
        x.wall(0, 2);
        is("SMELL, 1", x.through(0, 1), 1);
        x.wall(0, 9);
        is("SMELL, less", x.through(0, 1), 0);
        is("SOUND, less", x.through(1, 0), 0);
        x.wall(0, 4);
        is("SOUND, just 0", x.through(1, 0), 0);
        x.wall(0, 3);
        is("SOUND, 1", x.through(1, 0), 1);
        is("HEAT of 0", x.through(2, 5), 0);
        is("nothing", x.through(3, 2), 0);
        is("SMELL of 0, far", x.through(4, 0), 0);
        is("SOUND of 0, far", x.through(5, 0), 0);
    }

    static void promise13Nothing() {
        sentence(13, "h (HEAT) or o (nothing), what LEAKS from it");
        SoundPaid x = street("o9o0;c9o0;o9o0", "");
        is("beside it", x.through(0, 1), 0);
        is("over a HOUSE", x.through(0, 2), 0);
        is("to one that enjoys nothing", x.through(2, 1), 0);
    }

    static void promise13WhetherItCountsOrNot() {
        sentence(13, "What comes THROUGH from a HOUSE to another one, whether it counts or not. BAD: also to itself.");
        SoundPaid x = street("c9o0;m9o0;h9c0", "");
        is("not enjoyed", x.through(0, 1), 9);
        is("another is enjoyed", x.through(1, 2), 9);
        is("at a RATE of 0", x.through(0, 2), 7);
        x.shut(0, 0);
        is("of one that is SHUT on a DAY", x.through(0, 1), 9);
    }

    static void promise13Bad() {
        sentence(13, "whether it counts or not. BAD: also to itself.");
        SoundPaid x = street("c9o0;m9o0;h9o0", "");
        for (int house = 0; house < 3; house++) is("to itself", x.through(house, house), BAD);
        is("of one that there is not to itself", x.through(3, 3), BAD);
        range("through(house, 1)", 0, 2, BAD, house -> x.through(house, 1));
        range("through(1, other)", 0, 2, BAD, other -> x.through(1, other));
        is("without HOUSES", new SoundPaid().through(0, 1), BAD);
    }
}
