import java.math.BigInteger;

/** Promises 31 to 38 at their edges, sentence by sentence: sheets, findings, counts, the digest. */
public final class EdgeSheetsTest extends Edges {
    public static void main(String[] args) throws Exception {
        run(EdgeSheetsTest.class);
    }

    // ---- new and lost ones.

    static void promise31Of0To60Items() {
        sentence(31, "of 0 to 60 items (0 at first)");
        SoundPaid x = new SoundPaid();
        is("0 items", x.sheet(0, BYTES, 0), 0);
        is("there is no item", x.put(0, BYTES, 0, 1), INDEX);
        is("it is not LOST", x.lose(0), 0);
        for (int form = 0; form < 3; form++) {
            is("60 items", x.sheet(form, form, 60), 60);
            is("the first", x.put(form, form, 0, 7), 1);
            is("the last", x.put(form, form, 59, 7), 1);
            is("one more", x.put(form, form, 60, 7), INDEX);
            is("61 items", x.sheet(form, form, 61), BAD);
            is("the greatest number of items", x.sheet(form, form, MOST), BAD);
            is("it stays", x.get(form, form, 59), 7);
        }
    }

    static void promise31Each0AtFirst() {
        sentence(31, "A SHEET is a new row of a FORM with n items: n.");
        SoundPaid x = new SoundPaid();
        fill(x, 0, INTS, 1, 2, 3, 4, 5, 6);
        is("anew", x.sheet(0, INTS, 6), 6);
        items(x, 0, INTS, 0, 0, 0, 0, 0, 0);
        fill(x, 0, INTS, 1, 2, 3, 4, 5, 6);
        is("fewer, of another FORM", x.sheet(0, BYTES, 2), 2);
        items(x, 0, BYTES, 0, 0);
        is("more", x.sheet(0, BYTES, 60), 60);
        for (int i = 0; i < 60; i++) is("item " + i, x.get(0, BYTES, i), 0);
        x.put(0, BYTES, 3, 9);
        x.lose(0);
        is("anew when it was LOST", x.sheet(0, BYTES, 4), 4);
        items(x, 0, BYTES, 0, 0, 0, 0);
    }

    static void promise31Forms() {
        sentence(31, "a row of a FORM: 0 bytes, 1 shorts, 2 ints");
        SoundPaid x = new SoundPaid();
        range("sheet(0, form, 1)", 0, 2, BAD, form -> x.sheet(0, form, 1));
        is("the latest stays", x.get(0, INTS, 0), 0);
        is("no FINDING", x.count(8), 0);
    }

    static void promise31Sheets0To3() {
        sentence(31, "SHEETS 0 .. 3 are LOST (at first)");
        SoundPaid x = new SoundPaid();
        for (int s = 0; s < 4; s++) is("read(" + s + ")", x.read(s), NULL);
        range("sheet(s, 0, 5)", 0, 3, BAD, s -> x.sheet(s, BYTES, 5));
        is("0", x.lose(0), 5);
        is("1", x.lose(1), NULL);
        is("2", x.lose(2), NULL);
        is("3", x.lose(3), 5);
    }

    static void promise31Size() {
        sentence(31, "BAD: SHEET, FORM, above 60; SIZE.");
        SoundPaid x = new SoundPaid();
        x.sheet(0, SHORTS, 3);
        is("-1 items", x.sheet(0, INTS, -1), SIZE);
        is("the FINDING", x.count(8), 5);
        is("the least number of items", x.sheet(0, INTS, LEAST), SIZE);
        is("it stays", x.lose(0), 3);
        is("of a LOST one", x.sheet(0, INTS, -1), SIZE);
        is("it is LOST still", x.lose(0), NULL);
    }

    static void promise32Lose() {
        sentence(32, "It is LOST: how many items it had. BAD; NULL.");
        SoundPaid x = new SoundPaid();
        range("lose(s)", 0, 3, BAD, s -> x.lose(s));
        for (int s = 0; s < 4; s++) {
            is("LOST at first", x.lose(s), NULL);
            x.sheet(s, s % 3, 60 * (s % 2));
            is("its items", x.lose(s), 60 * (s % 2));
            is("LOST again", x.lose(s), NULL);
            is("nothing is put", x.put(s, s % 3, 0, 1), NULL);
            is("nothing is read", x.read(s), NULL);
        }
        is("the FINDING", x.count(8), 1);
    }

    // ---- items.

    static void promise33TheLowestBits() {
        sentence(33, "becomes v (the lowest bits that it has, with its sign; by write(), too): 1.");
        SoundPaid x = new SoundPaid();
        for (int form = 0; form < 3; form++) x.sheet(form, form, 2);
        int[][] rows = {{127, 127, 127}, {128, -128, 128}, {255, -1, 255}, {256, 0, 256}, {-128, -128, -128},
            {-129, 127, -129}, {32767, -1, 32767}, {32768, 0, -32768}, {65535, -1, -1}, {65536, 0, 0},
            {-32768, 0, -32768}, {-32769, -1, 32767}, {MOST, -1, -1}, {LEAST, 0, 0}};
        for (int[] row : rows) {
            for (int form = 0; form < 3; form++) {
                is("put", x.put(form, form, 1, row[0]), 1);
                is(row[0] + " in FORM " + form, x.get(form, form, 1), form == INTS ? row[0] : row[form + 1]);
                is("the item ahead", x.get(form, form, 0), 0);
            }
        }
    }

    static void promise33Index() {
        sentence(33, "BAD; NULL; CAST; INDEX.");
        SoundPaid x = new SoundPaid();
        is("of a LOST one", x.put(0, BYTES, 0, 1), NULL);
        is("FINDING", x.count(8), 1);
        x.sheet(0, SHORTS, 3);
        is("as ints", x.put(0, INTS, 0, 1), CAST);
        is("FINDING", x.count(8), 3);
        is("as bytes", x.put(0, BYTES, 0, 1), CAST);
        range("put(0, SHORTS, i, 9)", 0, 2, INDEX, i -> x.put(0, SHORTS, i, 9));
        is("FINDING", x.count(8), 2);
        items(x, 0, SHORTS, 9, 0, 9);
        x.sheet(1, BYTES, 0);
        is("none at all", x.put(1, BYTES, 0, 1), INDEX);
    }

    static void promise33Bad() {
        sentence(33, "Item i, treated as of a FORM, becomes v");
        SoundPaid x = new SoundPaid();
        for (int s = 0; s < 4; s++) x.sheet(s, BYTES, 1);
        range("put(s, 0, 0, 1)", 0, 3, BAD, s -> x.put(s, BYTES, 0, 1));
        range("put(0, form, 0, 1)", 0, 2, BAD, form -> x.put(0, form, 0, 1));
        is("any v", x.put(0, BYTES, 0, LEAST), 1);
    }

    static void promise34TheLeastInt() {
        sentence(34, "Item i of it. BAD: the least int; so are NULL, CAST, INDEX (count() 8 tells).");
        SoundPaid x = new SoundPaid();
        is("BAD", x.get(4, INTS, 0), LEAST);
        is("BAD is no FINDING", x.count(8), 0);
        is("NULL", x.get(0, INTS, 0), LEAST);
        is("count() 8", x.count(8), 1);
        fill(x, 0, INTS, LEAST, MOST);
        is("an item that is the least int", x.get(0, INTS, 0), LEAST);
        is("it is no FINDING", x.count(8), 1);
        is("CAST", x.get(0, SHORTS, 0), LEAST);
        is("count() 8", x.count(8), 3);
        is("BAD", x.get(-1, INTS, 0), LEAST);
        is("the latest FINDING stays", x.count(8), 3);
        for (int i : new int[] {-1, 2, LEAST, MOST}) {
            x.get(0, BYTES, 0);
            is("INDEX " + i, x.get(0, INTS, i), LEAST);
            is("count() 8", x.count(8), 2);
        }
        is("the last item", x.get(0, INTS, 1), MOST);
    }

    static void promise34Bad() {
        sentence(34, "Item i of it. BAD: the least int");
        SoundPaid x = new SoundPaid();
        for (int s = 0; s < 4; s++) x.sheet(s, BYTES, 1);
        range("get(s, 0, 0)", 0, 3, LEAST, s -> x.get(s, BYTES, 0));
        is("no FINDING", x.count(8), 0);
        for (int form : new int[] {-1, 3, LEAST, MOST}) is("get(0, " + form + ", 0)", x.get(0, form, 0), LEAST);
        is("no FINDING", x.count(8), 0);
    }

    // ---- copies.

    /** Sheets 0 and 1 of five and of three ints, 2 of shorts, 3 is lost. */
    private static SoundPaid sheets() {
        SoundPaid x = new SoundPaid();
        fill(x, 0, INTS, 1, 2, 3, 4, 5);
        fill(x, 1, INTS, 7, 8, 9);
        fill(x, 2, SHORTS, 6, 6, 6);
        return x;
    }

    static void promise35AsTheyWere() {
        sentence(35, "n items of SHEET s, from i on, come to SHEET t (perhaps s, as they were), from j on: 1.");
        SoundPaid x = sheets();
        is("on", x.copy(0, 0, 0, 1, 4), 1);
        items(x, 0, INTS, 1, 1, 2, 3, 4);
        x = sheets();
        is("back", x.copy(0, 1, 0, 0, 4), 1);
        items(x, 0, INTS, 2, 3, 4, 5, 5);
        is("onto the same places", x.copy(0, 0, 0, 0, 5), 1);
        items(x, 0, INTS, 2, 3, 4, 5, 5);
        is("all of another", x.copy(1, 0, 0, 2, 3), 1);
        items(x, 0, INTS, 2, 3, 7, 8, 9);
        items(x, 1, INTS, 7, 8, 9);
        is("the last onto the first", x.copy(0, 4, 1, 0, 1), 1);
        items(x, 1, INTS, 9, 8, 9);
    }

    static void promise35Index() {
        sentence(35, "INDEX: i, j or n below 0, not so many there (of n 0, too: i or j above the size).");
        SoundPaid x = sheets();
        int[][] rows = {{-1, 0, 0}, {0, -1, 0}, {0, 0, -1}, {-1, 0, 1}, {0, -1, 1}, {LEAST, 0, 0}, {0, LEAST, 0},
            {0, 0, LEAST}, {0, 0, 4}, {3, 0, 3}, {0, 1, 3}, {5, 0, 1}, {0, 3, 1}, {6, 0, 0}, {0, 4, 0},
            {MOST, 0, 0}, {0, MOST, 0}, {0, 0, MOST}, {5, 3, MOST}, {MOST, MOST, MOST}, {LEAST, LEAST, LEAST}};
        for (int[] row : rows) {
            x.lose(3);
            is("copy " + row[0] + ", " + row[1] + ", " + row[2], x.copy(0, row[0], 1, row[1], row[2]), INDEX);
            is("FINDING", x.count(8), 2);
        }
        items(x, 0, INTS, 1, 2, 3, 4, 5);
        items(x, 1, INTS, 7, 8, 9);
    }

    static void promise35OfNone() {
        sentence(35, "not so many there (of n 0, too: i or j above the size)");
        SoundPaid x = sheets();
        is("none from the first", x.copy(0, 0, 1, 0, 0), 1);
        is("none from behind the last", x.copy(0, 5, 1, 3, 0), 1);
        is("none from one behind that", x.copy(0, 6, 1, 3, 0), INDEX);
        is("none to one behind that", x.copy(0, 5, 1, 4, 0), INDEX);
        x.sheet(1, INTS, 0);
        is("none to one of 0 items", x.copy(0, 2, 1, 0, 0), 1);
        is("none from one of 0 items", x.copy(1, 0, 0, 2, 0), 1);
        is("none from item 1 of 0", x.copy(1, 1, 0, 0, 0), INDEX);
        items(x, 0, INTS, 1, 2, 3, 4, 5);
    }

    static void promise35Store() {
        sentence(35, "STORE; INDEX: i, j or n below 0");
        SoundPaid x = sheets();
        is("ints to shorts", x.copy(0, 0, 2, 0, 1), STORE);
        is("FINDING", x.count(8), 4);
        is("shorts to ints", x.copy(2, 0, 0, 0, 1), STORE);
        is("of n 0, too", x.copy(2, 0, 0, 0, 0), STORE);
        is("ahead of INDEX", x.copy(2, -1, 0, 99, -1), STORE);
        items(x, 0, INTS, 1, 2, 3, 4, 5);
        items(x, 2, SHORTS, 6, 6, 6);
    }

    static void promise35Null() {
        sentence(35, "BAD: the SHEETS; NULL: s, t; STORE;");
        SoundPaid x = sheets();
        range("copy(s, 0, 0, 0, 0)", 0, 3, BAD, s -> x.copy(s, 0, 0, 0, 0));
        range("copy(0, 0, t, 0, 0)", 0, 3, BAD, t -> x.copy(0, 0, t, 0, 0));
        is("s", x.copy(3, 0, 0, 0, 1), NULL);
        is("t", x.copy(0, 0, 3, 0, 1), NULL);
        is("both", x.copy(3, 0, 3, 0, 1), NULL);
        is("ahead of INDEX", x.copy(3, -1, 2, 0, 1), NULL);
        is("FINDING", x.count(8), 1);
        is("s LOST, t BAD", x.copy(3, 0, 4, 0, 1), BAD);
        is("s BAD, t LOST", x.copy(-1, 0, 3, 0, 1), BAD);
    }

    // ---- balances written.

    static void promise36AsManyAsThereAreItems() {
        sentence(36, "BALANCE of a HOUSE behind DAYS 0 on comes to a SHEET from item 0 on, as many as there are items, 30 at most");
        SoundPaid x = street("c5o0;o0c0", "c1", new int[] {0, 0, 1});
        for (int size : new int[] {0, 1, 29, 30, 31, 60}) {
            x.sheet(0, SHORTS, size);
            for (int i = 30; i < size; i++) x.put(0, SHORTS, i, 7);
            int written = Math.min(size, 30);
            is(size + " items", x.write(0, 0), written);
            if (written > 0) is("the first", x.get(0, SHORTS, 0), 5);
            if (written > 0) is("the last", x.get(0, SHORTS, written - 1), 5 * written);
            if (size > 30) is("the next one stays", x.get(0, SHORTS, 30), 7);
        }
    }

    static void promise36TheLowestBits() {
        sentence(36, "(the lowest bits that it has, with its sign; by write(), too)");
        SoundPaid x = street("c9o0;o0c0", "c9", new int[] {0, 0, 1});
        x.sheet(0, BYTES, 4);
        is("bytes", x.write(0, 0), 4);
        items(x, 0, BYTES, 81, -94, -13, 68);
        is("bytes below 0", x.write(1, 0), 4);
        items(x, 0, BYTES, -81, 94, 13, -68);
        x.sheet(1, SHORTS, 30);
        x.write(1, 1);
        is("shorts", x.get(1, SHORTS, 29), -2430);
        x.sheet(2, INTS, 30);
        x.write(1, 2);
        is("ints", x.get(2, INTS, 29), -2430);
    }

    static void promise36Bad() {
        sentence(36, "30 at most: how many. BAD; NULL.");
        SoundPaid x = street("c5o0;o0c0", "c1");
        range("write(0, s)", 0, 3, BAD, s -> x.write(0, s));
        for (int s = 0; s < 4; s++) is("LOST", x.write(0, s), NULL);
        is("FINDING", x.count(8), 1);
        x.sheet(0, INTS, 2);
        range("write(house, 0)", 0, 1, BAD, house -> x.write(house, 0));
        is("no HOUSE, LOST", x.write(2, 3), BAD);
    }

    // ---- counts.

    static void promise37AllOfThem() {
        sentence(37, "0 HOUSES, 1 RULINGS, 2, 3 bytes of texts, 4 SUITS, 5 SHUT, 6 all WALLS, how THICK, 7 SEEN");
        SoundPaid x = street(EIGHT_HOUSES, SIX_RULINGS);
        for (int n = 0; n < 13; n++) x.suit(n, 0, 1);
        for (int n = 0; n < 9; n++) x.shut(n, 0);
        for (int n = 0; n < 7; n++) x.wall(n, 9);
        for (int n = 0; n < 9; n++) x.seen(n, 0, 0);
        int[] most = {8, 6, 39, 17, 12, 8, 63, 8, 0};
        for (int what = 0; what <= 8; what++) is("count(" + what + ")", x.count(what), most[what]);
        range("count(what)", 0, 8, BAD, what -> x.count(what));
        x.wipe(0);
        is("WALLS stay without HOUSES", x.count(6), 63);
    }

    static void promise37LatestFinding() {
        sentence(37, "8 the number of the latest FINDING (0 before any)");
        SoundPaid x = sheets();
        is("before any", x.count(8), 0);
        x.back(0);
        x.suit(0, 0, 0);
        is("other refusals are none", x.count(8), 0);
        is("NULL", x.lose(3), NULL);
        is("1", x.count(8), 1);
        is("INDEX", x.put(0, INTS, 5, 0), INDEX);
        is("2", x.count(8), 2);
        is("CAST", x.put(0, BYTES, 0, 0), CAST);
        is("3", x.count(8), 3);
        is("STORE", x.copy(0, 0, 2, 0, 0), STORE);
        is("4", x.count(8), 4);
        is("SIZE", x.sheet(0, BYTES, -1), SIZE);
        is("5", x.count(8), 5);
        is("a good call", x.put(0, INTS, 0, 0), 1);
        is("5 still", x.count(8), 5);
    }

    static void promise37FindingsAreMinus10LessTheNumber() {
        sentence(37, "FINDINGS (answers -10 less the number; they change nothing but count() 8)");
        SoundPaid x = sheets();
        long digest = x.digest();
        int[] answers = {x.read(3), x.put(0, INTS, -1, 0), x.put(0, SHORTS, 0, 0), x.copy(0, 0, 2, 0, 1),
            x.sheet(2, INTS, -1)};
        for (int n = 1; n <= 5; n++) is("FINDING " + n, answers[n - 1], -10 - n);
        is("nothing but count() 8", x.digest(), digest);
        items(x, 0, INTS, 1, 2, 3, 4, 5);
        items(x, 2, SHORTS, 6, 6, 6);
    }

    // ---- the digest.

    static void promise38LongsThatWrap() {
        sentence(38, "as longs that wrap");
        int[] row = {0, 0, 0, 0, 0, 0, 0, 0, -1, -1, 0, -1, -1, 0, -1, -1, 0, -1, -1, 0, -1, 0, 0, -1, 0, -1, -1,
            0, -1, 0, 0, -1, 0, -1, -1, 0, -1, 0, 0, -1, 0, -1, -1, 0, 0};
        BigInteger h = BigInteger.valueOf(17);
        for (int told : row) h = h.multiply(BigInteger.valueOf(31)).add(BigInteger.valueOf(told));
        is("more bits than a long has", h.bitLength() > 64 ? 1 : 0, 1);
        is("of no HOUSES", new SoundPaid().digest(), h.longValue());
    }

    static void promise38AsTheseAreTold() {
        sentence(38, "through(0, it), owes(9, 0, it) (as these are told)");
        SoundPaid x = street("o0o0", "");
        int[] row = {1, 0, 4, 0, 0, 0, 0, 0, -1, -1,
            3, 0, 3, 0, -2, -2, 0, 0, -1, -1, -1, ANY, 1023, 0, 1, 0,
            0, -1, -1, 0, -1, -1, 0, -1, -1,
            0, 0, 0, 0, -1, 0, -1, 0, 0, 0, 0, 0, -1, 0, -1, 0, 0, 0, 0, 0, -1, 0, -1, 0,
            0, 0};
        long h = 17;
        for (int told : row) h = 31 * h + told;
        is("of one HOUSE", x.digest(), h);
    }

    static void promise38TellsNoFinding() {
        sentence(38, "h is 17; h becomes 31 h and each of: count() 0 to 7");
        SoundPaid x = street("c5c1;c4c2", "c1", new int[] {9, 0, 1});
        long h = x.digest();
        is("NULL", x.lose(0), NULL);
        is("count() 8 is not in it", x.digest(), h);
        x.seen(9, 0, 0);
        is("count() 7 is", x.digest() == h ? 1 : 0, 0);
    }

    static void promise38For512Calls() {
        sentence(38, "An object is used for at most 512 calls after it has been made");
        SoundPaid x = new SoundPaid();
        int calls = 0;
        for (int round = 0; round < 60; round++) {
            x.suit(round % 30, 0, 1);
            x.shut(round % 30, 0);
            x.seen(round % 30, 0, 0);
            x.sheet(round % 4, round % 3, round);
            x.wall(round % 7, round % 10);
            x.type(0, 'c');
            x.undo(0);
            calls += 7;
        }
        while (x.back(0) != NOT) calls++;
        while (x.back(1) != NOT) calls++;
        x.forget();
        for (int wall = 0; wall < 7; wall++) x.wall(wall, 0);
        calls += 10;
        while (calls < 511) {
            is("call " + calls, x.fault(0), NONE);
            calls++;
        }
        is("the 512th call", x.digest(), new SoundPaid().digest());
    }
}
