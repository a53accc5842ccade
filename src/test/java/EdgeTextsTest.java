/** Promises 1 to 7 at their edges, sentence by sentence: a new object, texts, houses, rates. */
public final class EdgeTextsTest extends Edges {
    public static void main(String[] args) throws Exception {
        run(EdgeTextsTest.class);
    }

    // ---- a new object.

    static void promise01NoHouses() {
        sentence(1, "No HOUSES, no RULINGS; all SHEETS are LOST.");
        SoundPaid x = new SoundPaid();
        is("count(0)", x.count(0), 0);
        is("house(0, 0)", x.house(0, 0), BAD);
        is("count(1)", x.count(1), 0);
        for (int kind = 0; kind < 3; kind++) is("rate(" + kind + ")", x.rate(kind), 0);
        for (int s = 0; s < 4; s++) is("lose(" + s + ")", x.lose(s), NULL);
    }

    static void promise01NothingOfAnotherObject() {
        sentence(1, "No HOUSES, no RULINGS; all SHEETS are LOST.");
        SoundPaid used = street(EIGHT_HOUSES, SIX_RULINGS, new int[] {0, 0, 1});
        used.shut(0, 0);
        used.wall(0, 9);
        used.seen(0, 0, 0);
        used.sheet(0, INTS, 60);
        used.lose(3);
        SoundPaid x = new SoundPaid();
        for (int what = 0; what <= 8; what++) is("count(" + what + ")", x.count(what), 0);
        is("lose(0)", x.lose(0), NULL);
    }

    // ---- bytes of texts.

    static void promise02ByteIs0To255() {
        sentence(2, "A byte (0 to 255) comes behind a text: how many. BAD; FULL.");
        for (int text = 0; text <= 1; text++) {
            SoundPaid x = new SoundPaid();
            int told = text;
            range("type(" + text + ", b)", 0, 255, BAD, b -> x.type(told, b));
            is("a byte and 256", x.type(text, 256 + 'c'), BAD);
            is("a byte less 256", x.type(text, 'c' - 256), BAD);
            is("count", x.count(2 + text), 2);
        }
    }

    static void promise02TextIs0Or1() {
        sentence(2, "A byte (0 to 255) comes behind a text: how many. BAD; FULL.");
        SoundPaid x = new SoundPaid();
        range("type(text, 99)", 0, 1, BAD, text -> x.type(text, 'c'));
        is("text 0", x.count(2), 1);
        is("text 1", x.count(3), 1);
    }

    static void promise02HousesAreUpTo39Bytes() {
        sentence(2, "HOUSES are a text of up to 39 bytes (text 0)");
        SoundPaid x = new SoundPaid();
        for (int n = 1; n <= 39; n++) is("byte " + n, x.type(0, EIGHT_HOUSES.charAt(n - 1)), n);
        is("byte 40", x.type(0, ';'), FULL);
        is("count(2)", x.count(2), 39);
        is("the other text has room", x.type(1, 'c'), 1);
        is("room again", x.undo(0), 38);
        is("byte 39 again", x.type(0, '8'), 39);
    }

    static void promise02RulingsAreUpTo17Bytes() {
        sentence(2, "RULINGS are a text of up to 17 bytes (text 1)");
        SoundPaid x = new SoundPaid();
        for (int n = 1; n <= 17; n++) is("byte " + n, x.type(1, SIX_RULINGS.charAt(n - 1)), n);
        is("byte 18", x.type(1, ';'), FULL);
        is("count(3)", x.count(3), 17);
        is("the other text has room", x.type(0, 'c'), 1);
    }

    static void promise03WipeOfEmptyAndOfFull() {
        sentence(3, "A text is empty: how many bytes it had. BAD.");
        SoundPaid x = new SoundPaid();
        is("empty houses", x.wipe(0), 0);
        is("empty rulings", x.wipe(1), 0);
        Due.type(x, 0, EIGHT_HOUSES);
        Due.type(x, 1, SIX_RULINGS);
        is("full houses", x.wipe(0), 39);
        is("the other text stays", x.count(3), 17);
        is("full rulings", x.wipe(1), 17);
        is("houses again", x.wipe(0), 0);
        is("bytes of houses", x.count(2), 0);
        is("bytes of rulings", x.count(3), 0);
        is("no FAULT", x.fault(0), NONE);
        is("room", x.type(0, 'c'), 1);
    }

    static void promise03WipeBad() {
        sentence(3, "A text is empty: how many bytes it had. BAD.");
        SoundPaid x = street(EIGHT_HOUSES, SIX_RULINGS);
        for (int text : new int[] {-1, 2, LEAST, MOST}) is("wipe(" + text + ")", x.wipe(text), BAD);
        is("bytes of houses", x.count(2), 39);
        is("bytes of rulings", x.count(3), 17);
    }

    static void promise04UndoOfEmptyAndOfFull() {
        sentence(4, "The last byte of a text is undone: how many are left. BAD; NOT: it is empty.");
        SoundPaid x = new SoundPaid();
        is("empty houses", x.undo(0), NOT);
        is("empty rulings", x.undo(1), NOT);
        x.type(0, 'c');
        is("the other text is empty", x.undo(1), NOT);
        is("the only byte", x.undo(0), 0);
        is("none is left", x.undo(0), NOT);
        Due.type(x, 0, EIGHT_HOUSES);
        Due.type(x, 1, SIX_RULINGS);
        is("full houses", x.undo(0), 38);
        is("full rulings", x.undo(1), 16);
        is("wiped", x.wipe(1), 16);
        is("of a wiped text", x.undo(1), NOT);
    }

    static void promise04UndoBad() {
        sentence(4, "The last byte of a text is undone: how many are left. BAD; NOT: it is empty.");
        SoundPaid x = street("c1c1", "c1");
        for (int text : new int[] {-1, 2, LEAST, MOST}) is("undo(" + text + ")", x.undo(text), BAD);
        is("bytes of houses", x.count(2), 4);
        is("bytes of rulings", x.count(3), 2);
    }

    // ---- faults.

    static void promise05AnEmptyOneIsWell() {
        sentence(5, "an empty one is well");
        SoundPaid x = new SoundPaid();
        is("houses", x.fault(0), NONE);
        is("rulings", x.fault(1), NONE);
        Due.type(x, 0, "x");
        is("not empty", x.fault(0), 0);
        x.undo(0);
        is("undone to none", x.fault(0), NONE);
        Due.type(x, 1, "x");
        x.wipe(1);
        is("wiped", x.fault(1), NONE);
    }

    static void promise05NotEnded() {
        sentence(5, "of one that is not ended, its end");
        for (int size = 1; size <= 39; size++) {
            boolean ended = size % 5 == 4;
            is(size + " bytes of houses", street(EIGHT_HOUSES.substring(0, size), "").fault(0), ended ? NONE : size);
        }
        for (int size = 1; size <= 17; size++) {
            boolean ended = size % 3 == 2;
            is(size + " bytes of rulings", street("", SIX_RULINGS.substring(0, size)).fault(1), ended ? NONE : size);
        }
    }

    static void promise05FirstByteWithWhichItCannotGoOn() {
        sentence(5, "The FAULT of a text is the place of the first byte with which it cannot go on");
        is("the first byte", street("x1c1", "").fault(0), 0);
        is("the first of two", street("c1x1;xxxx", "").fault(0), 2);
        is("well bytes behind it", street("cc1c1", "").fault(0), 1);
        is("as a text would begin", street("c1c1c1c1", "").fault(0), 4);
        is("the last of 39", street(EIGHT_HOUSES.substring(0, 38) + "c", "").fault(0), 38);
        is("the first byte of a ruling", street("", "x1").fault(1), 0);
        is("the first of two in rulings", street("", "c1;mm;x").fault(1), 4);
        is("the last of 17", street("", SIX_RULINGS.substring(0, 16) + "c").fault(1), 16);
        SoundPaid x = street("c1c1", "");
        x.type(0, 0);
        is("byte 0", x.fault(0), 4);
        x.undo(0);
        x.type(0, 255);
        is("byte 255", x.fault(0), 4);
        is("the other text is well", x.fault(1), NONE);
    }

    static void promise05NinthAndSeventh() {
        sentence(5, "here also of the first byte of a ninth, a seventh");
        SoundPaid x = street(EIGHT_HOUSES, SIX_RULINGS);
        is("eight are well", x.fault(0), NONE);
        is("six are well", x.fault(1), NONE);
        is("what would come ahead of a ninth finds no room", x.type(0, ';'), FULL);
        is("nor does a ninth", x.type(0, 'c'), FULL);
        is("what would come ahead of a seventh finds no room", x.type(1, ';'), FULL);
        is("nor does a seventh", x.type(1, 'c'), FULL);
        is("eight are still well", x.fault(0), NONE);
        is("six are still well", x.fault(1), NONE);
        is("eight", x.count(0), 8);
        is("six", x.count(1), 6);
        is("an eighth begins", street(EIGHT_HOUSES.substring(0, 36), "").fault(0), 36);
        is("a sixth begins", street("", SIX_RULINGS.substring(0, 16)).fault(1), 16);
    }

    static void promise05HousesAsIfEmpty() {
        sentence(5, "With a FAULT a text is as if it was empty.");
        SoundPaid x = street("c5c5;c5c5;x", "c1", new int[] {0, 0, 1});
        is("fault(0)", x.fault(0), 10);
        is("no HOUSES", x.count(0), 0);
        is("house", x.house(0, 0), BAD);
        is("through", x.through(0, 1), BAD);
        is("owes", x.owes(0, 1, 0), BAD);
        is("balance", x.balance(0, 0), ANY_BAD);
        is("coin", x.coin(0), 0);
        is("richest", x.richest(0), NONE);
        is("ask", x.ask(0), NONE);
        is("its bytes are there", x.count(2), 11);
        is("the other text is not", x.rate(0), 1);
        is("undone", x.undo(0), 10);
        is("not ended is a FAULT, too", x.count(0), 0);
        is("undone", x.undo(0), 9);
        is("well again", x.count(0), 2);
        is("balance again", x.balance(0, 0), 5);
    }

    static void promise05RulingsAsIfEmpty() {
        sentence(5, "With a FAULT a text is as if it was empty.");
        SoundPaid x = street("c5c5;c5c5", "c9;", new int[] {0, 0, 1});
        is("fault(1)", x.fault(1), 3);
        is("no RULINGS", x.count(1), 0);
        is("rate", x.rate(0), 0);
        is("coin", x.coin(0), 0);
        is("its bytes are there", x.count(3), 3);
        is("the other text is not", x.count(0), 2);
        is("undone", x.undo(1), 2);
        is("well again", x.count(1), 1);
        is("rate again", x.rate(0), 9);
        is("coin again", x.coin(0), 45);
    }

    static void promise05Bad() {
        sentence(5, "The FAULT of a text; NONE. BAD.");
        SoundPaid x = new SoundPaid();
        range("fault(text)", 0, 1, BAD, text -> x.fault(text));
    }

    /** Of all bytes behind a head just those signs go on; the place behind it is a FAULT too where that is no end. */
    private static void goesOnWith(int text, String head, String signs, boolean ends) {
        for (int b = 0; b <= 255; b++) {
            SoundPaid x = new SoundPaid();
            Due.type(x, text, head);
            x.type(text, b);
            int goesOn = ends ? NONE : head.length() + 1;
            is("\"" + head + "\" and byte " + b, x.fault(text), signs.indexOf(b) < 0 ? head.length() : goesOn);
        }
    }

    static void promise05BetweenHouses() {
        sentence(5, "with ; between them: c (SMELL), m (SOUND), h (HEAT) or o (nothing)");
        goesOnWith(0, "c1c1", ";", false);
        goesOnWith(0, "c1c1;c1c1", ";", false);
        is("none ahead of the first", street(";c1c1", "").fault(0), 0);
        is("one, not two", street("c1c1;;", "").fault(0), 5);
    }

    static void promise05WhatLeaks() {
        sentence(5, "c (SMELL), m (SOUND), h (HEAT) or o (nothing), what LEAKS from it");
        goesOnWith(0, "", "cmho", false);
        goesOnWith(0, "c1c1;", "cmho", false);
    }

    static void promise05HowMuch() {
        sentence(5, "a figure, how much (0 to 9)");
        goesOnWith(0, "o", "0123456789", false);
        goesOnWith(0, "c1c1;h", "0123456789", false);
    }

    static void promise05WhatItEnjoys() {
        sentence(5, "c, m, h or o, what it ENJOYS (o: nothing)");
        goesOnWith(0, "c1", "cmho", false);
        goesOnWith(0, "c1c1;m0", "cmho", false);
    }

    static void promise05Coins() {
        sentence(5, "and a figure, its COINS (0 to 9).");
        goesOnWith(0, "c1o", "0123456789", true);
        goesOnWith(0, "c1c1;m0m", "0123456789", true);
    }

    static void promise05KindsOfRulings() {
        sentence(5, "with ; between them: c, m or h, and a figure, its RATE (0 to 9)");
        goesOnWith(1, "", "cmh", false);
        goesOnWith(1, "c1;", "cmh", false);
        goesOnWith(1, "h1", ";", false);
        is("none ahead of the first", street("", ";c1").fault(1), 0);
    }

    static void promise05FiguresOfRulings() {
        sentence(5, "and a figure, its RATE (0 to 9)");
        goesOnWith(1, "m", "0123456789", true);
        goesOnWith(1, "c1;h", "0123456789", true);
    }

    // ---- houses and rates.

    static void promise06EightAtMost() {
        sentence(6, "8 at most (0 on, one beside the other)");
        SoundPaid x = street(EIGHT_HOUSES, "");
        is("count(0)", x.count(0), 8);
        int[][] rows = {{0, 0, 3, 9}, {1, 9, 2, 0}, {2, 5, 0, 5}, {3, 1, 1, 1}, {0, 2, 0, 2}, {1, 3, 1, 3}, {2, 4, 2, 4},
            {3, 9, 3, 8}};
        for (int house = 0; house < 8; house++) {
            for (int what = 0; what < 4; what++) is("house " + house, x.house(house, what), rows[house][what]);
        }
        range("house(h, 0)", 0, 7, BAD, h -> x.house(h, 0));
        SoundPaid one = street("m4h7", "");
        is("one", one.count(0), 1);
        range("house(h, 0) of one", 0, 0, BAD, h -> one.house(h, 0));
        is("none", new SoundPaid().house(0, 0), BAD);
    }

    static void promise06What() {
        sentence(6, "What LEAKS (what = 0: 0 c, 1 m, 2 h, 3 o), how much (1), what it ENJOYS (2), COINS (3) of a HOUSE. BAD.");
        SoundPaid x = street("o1o2;h3m4", "");
        range("house(1, what)", 0, 3, BAD, what -> x.house(1, what));
        int[] first = {3, 1, 3, 2};
        int[] second = {2, 3, 1, 4};
        for (int what = 0; what < 4; what++) {
            is("house(0, " + what + ")", x.house(0, what), first[what]);
            is("house(1, " + what + ")", x.house(1, what), second[what]);
        }
    }

    static void promise06Figures() {
        sentence(6, "a figure, how much (0 to 9), c, m, h or o, what it ENJOYS (o: nothing), and a figure, its COINS (0 to 9).");
        for (int figure = 0; figure <= 9; figure++) {
            char[] signs = {'c', (char) ('0' + figure), 'c', (char) ('9' - figure)};
            SoundPaid x = street(new String(signs), "");
            is("how much", x.house(0, 1), figure);
            is("COINS", x.house(0, 3), 9 - figure);
        }
    }

    static void promise07LastOfAKindCounts() {
        sentence(7, "of those of one kind the last counts (without one: 0)");
        is("the last of two", street("", "c9;c1").rate(0), 1);
        is("the last of two is 0", street("", "m9;m0").rate(1), 0);
        is("others behind it", street("", "c9;c5;m1;h2").rate(0), 5);
        is("the last of six", street("", "h1;h2;h3;h4;h5;h6").rate(2), 6);
        SoundPaid x = street("", "m3");
        is("without one of SMELL", x.rate(0), 0);
        is("without one of HEAT", x.rate(2), 0);
        Due.type(x, 1, ";m7");
        is("one more", x.rate(1), 7);
        for (int n = 0; n < 3; n++) x.undo(1);
        is("the one ahead again", x.rate(1), 3);
    }

    static void promise07SixAtMost() {
        sentence(7, "RULINGS are a text of up to 17 bytes (text 1), 6 at most");
        SoundPaid x = street("", SIX_RULINGS);
        is("count(1)", x.count(1), 6);
        for (int kind = 0; kind < 3; kind++) is("rate(" + kind + ")", x.rate(kind), 4 + kind);
    }

    static void promise07Figures() {
        sentence(7, "its RATE (0 to 9)");
        for (int figure = 0; figure <= 9; figure++) {
            is("RATE", street("", new String(new char[] {'h', (char) ('0' + figure)})).rate(2), figure);
        }
    }

    static void promise07Bad() {
        sentence(7, "RATE of a kind (0 to 2). BAD.");
        SoundPaid x = street("", SIX_RULINGS);
        range("rate(kind)", 0, 2, BAD, kind -> x.rate(kind));
    }
}
