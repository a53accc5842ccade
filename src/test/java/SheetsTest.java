/** Promises 12 and 31 to 38: sheets, findings, counts, the digest. */
public final class SheetsTest {
    private static final Due due = new Due();
    private static final int LEAST = Integer.MIN_VALUE;

    public static void main(String[] args) {
        promise12Read();
        promise31Sheet();
        promise32Lose();
        promise33Put();
        promise34Get();
        promise35Copy();
        promise36Write();
        promise37Count();
        promise38DigestOfNothing();
        promise38DigestOfAStreet();
        promise38DigestAsTheCallsAnswer();
        due.end();
    }

    private static void fill(SoundPaid x, int s, int form, int... items) {
        x.sheet(s, form, items.length);
        for (int i = 0; i < items.length; i++) x.put(s, form, i, items[i]);
    }

    private static void promise12Read() {
        SoundPaid x = Due.street("c5o0;o0c0", "c1");
        due.is("12 NULL", x.read(0), -11);
        due.is("12 finding", x.count(8), 1);
        due.is("12 below", x.read(-1), -2);
        due.is("12 above", x.read(4), -2);
        fill(x, 0, 0, 0, 0, 1, 2, 1, 0, 5, 0);
        due.is("12 whole ones", x.read(0), 2);
        due.is("12 suits", x.count(4), 2);
        due.is("12 as suit() takes them", x.balance(3, 0), 20);
        fill(x, 1, 2, 0, 0, 1, 0, 3, 3, 0, 0, 1);
        due.is("12 up to the first refused", x.read(1), 1);
        due.is("12 suits", x.count(4), 3);
        fill(x, 1, 1, 0, 0, 1, 30, 0, 1);
        due.is("12 a DAY that there is not", x.read(1), 1);
        fill(x, 1, 1, 0, 0, 1, 1, 0, 1);
        due.is("12 all of them", x.read(1), 2);
        due.is("12 suits", x.count(4), 6);
        x.sheet(2, 0, 2);
        due.is("12 none whole", x.read(2), 0);
        x.sheet(2, 0, 0);
        due.is("12 none", x.read(2), 0);
        int[] many = new int[60];
        for (int i = 2; i < 60; i += 3) many[i] = 1;
        fill(x, 3, 0, many);
        due.is("12 up to FULL", x.read(3), 6);
        due.is("12 FULL", x.read(3), 0);
        due.is("12 twelve", x.count(4), 12);
    }

    private static void promise31Sheet() {
        SoundPaid x = new SoundPaid();
        due.is("31 ints", x.sheet(0, 2, 60), 60);
        due.is("31 0 at first", x.get(0, 2, 59), 0);
        x.put(0, 2, 0, 5);
        due.is("31 anew", x.sheet(0, 1, 3), 3);
        due.is("31 0 again", x.get(0, 1, 0), 0);
        due.is("31 none", x.sheet(3, 0, 0), 0);
        due.is("31 none is not LOST", x.lose(3), 0);
        int[][] bad = {{-1, 0, 0}, {4, 0, 0}, {0, -1, 0}, {0, 3, 0}, {0, 0, 61}, {4, 0, -1}, {0, 3, -1}};
        for (int[] row : bad) due.is("31 BAD", x.sheet(row[0], row[1], row[2]), -2);
        due.is("31 no finding", x.count(8), 0);
        due.is("31 SIZE", x.sheet(0, 1, -1), -15);
        due.is("31 finding", x.count(8), 5);
        due.is("31 unchanged", x.lose(0), 3);
    }

    private static void promise32Lose() {
        SoundPaid x = new SoundPaid();
        x.sheet(1, 2, 7);
        due.is("32 items", x.lose(1), 7);
        due.is("32 NULL", x.lose(1), -11);
        due.is("32 finding", x.count(8), 1);
        due.is("32 below", x.lose(-1), -2);
        due.is("32 above", x.lose(4), -2);
    }

    private static void promise33Put() {
        SoundPaid x = new SoundPaid();
        due.is("33 NULL", x.put(0, 0, -1, 0), -11);
        x.sheet(0, 0, 2);
        x.sheet(1, 1, 2);
        x.sheet(2, 2, 2);
        int[] values = {127, 128, 255, 256, -129, 32767, 32768, 65536, -32769, Integer.MAX_VALUE, LEAST};
        for (int v : values) {
            due.is("33 a byte", x.put(0, 0, 1, v), 1);
            due.is("33 a byte", x.get(0, 0, 1), (byte) v);
            due.is("33 a short", x.put(1, 1, 1, v), 1);
            due.is("33 a short", x.get(1, 1, 1), (short) v);
            due.is("33 an int", x.put(2, 2, 1, v), 1);
            due.is("33 an int", x.get(2, 2, 1), v);
        }
        due.is("33 CAST", x.put(0, 1, 0, 5), -13);
        due.is("33 CAST ahead of INDEX", x.put(0, 1, 9, 5), -13);
        due.is("33 finding", x.count(8), 3);
        due.is("33 INDEX", x.put(0, 0, 2, 5), -12);
        due.is("33 INDEX", x.put(0, 0, -1, 5), -12);
        due.is("33 finding", x.count(8), 2);
        due.is("33 other items stay", x.get(0, 0, 0), 0);
        int[][] bad = {{-1, 0, 0}, {4, 0, 0}, {0, -1, 0}, {0, 3, 0}, {3, 3, 0}};
        for (int[] row : bad) due.is("33 BAD", x.put(row[0], row[1], row[2], 1), -2);
    }

    private static void promise34Get() {
        SoundPaid x = new SoundPaid();
        due.is("34 BAD", x.get(4, 0, 0), LEAST);
        due.is("34 BAD", x.get(-1, 0, 0), LEAST);
        due.is("34 BAD", x.get(0, 3, 0), LEAST);
        due.is("34 BAD", x.get(0, -1, 0), LEAST);
        due.is("34 BAD is no finding", x.count(8), 0);
        due.is("34 NULL", x.get(0, 0, 0), LEAST);
        due.is("34 finding", x.count(8), 1);
        fill(x, 0, 1, 7, -8);
        due.is("34 item", x.get(0, 1, 0), 7);
        due.is("34 item", x.get(0, 1, 1), -8);
        due.is("34 a good call is no finding", x.count(8), 1);
        due.is("34 INDEX", x.get(0, 1, 2), LEAST);
        due.is("34 finding", x.count(8), 2);
        due.is("34 CAST ahead of INDEX", x.get(0, 2, -1), LEAST);
        due.is("34 finding", x.count(8), 3);
        due.is("34 INDEX", x.get(0, 1, -1), LEAST);
        due.is("34 finding", x.count(8), 2);
    }

    private static void promise35Copy() {
        SoundPaid x = new SoundPaid();
        fill(x, 0, 2, 1, 2, 3, 4, 5);
        fill(x, 1, 2, 0, 0, 0);
        fill(x, 2, 1, 0, 0, 0);
        due.is("35 copy", x.copy(0, 1, 1, 0, 2), 1);
        dueItems(x, 1, 2, 2, 3, 0);
        due.is("35 onto itself, on", x.copy(0, 0, 0, 1, 4), 1);
        dueItems(x, 0, 2, 1, 1, 2, 3, 4);
        due.is("35 onto itself, back", x.copy(0, 2, 0, 0, 3), 1);
        dueItems(x, 0, 2, 2, 3, 4, 3, 4);
        due.is("35 none", x.copy(0, 5, 1, 3, 0), 1);
        int[][] index = {{-1, 0, 1}, {0, -1, 1}, {0, 0, -1}, {3, 0, 3}, {0, 1, 3}, {6, 0, 0}, {0, 4, 0},
            {0, 0, Integer.MAX_VALUE}, {Integer.MAX_VALUE, 0, 1}, {0, Integer.MAX_VALUE, 1}, {1, 1, Integer.MAX_VALUE}};
        for (int[] row : index) {
            x.lose(3);
            x.lose(3);
            due.is("35 INDEX", x.copy(0, row[0], 1, row[1], row[2]), -12);
            due.is("35 finding", x.count(8), 2);
        }
        dueItems(x, 1, 2, 2, 3, 0);
        due.is("35 STORE ahead of INDEX", x.copy(0, -1, 2, 0, 0), -14);
        due.is("35 finding", x.count(8), 4);
        due.is("35 NULL", x.copy(3, 0, 0, 0, 0), -11);
        due.is("35 NULL ahead of INDEX", x.copy(0, -1, 3, 0, 0), -11);
        due.is("35 finding", x.count(8), 1);
        int[][] bad = {{-1, 0}, {4, 0}, {0, -1}, {0, 4}, {3, 4}};
        for (int[] row : bad) due.is("35 BAD", x.copy(row[0], 0, row[1], 0, 0), -2);
    }

    private static void dueItems(SoundPaid x, int s, int form, int... items) {
        for (int i = 0; i < items.length; i++) due.is("sheet " + s + " item " + i, x.get(s, form, i), items[i]);
    }

    private static void promise36Write() {
        SoundPaid x = Due.street("c9o0;o0c0", "c9");
        x.suit(1, 0, 1);
        due.is("36 NULL", x.write(0, 0), -11);
        due.is("36 finding", x.count(8), 1);
        fill(x, 0, 2, 7, 7, 7, 7);
        due.is("36 as many as there are", x.write(0, 0), 4);
        dueItems(x, 0, 2, 0, 81, 162, 243);
        x.sheet(1, 0, 4);
        due.is("36 bytes", x.write(1, 1), 4);
        dueItems(x, 1, 0, 0, -81, 94, 13);
        x.sheet(2, 1, 60);
        x.put(2, 1, 30, 5);
        due.is("36 30 at most", x.write(0, 2), 30);
        due.is("36 the last DAY", x.get(2, 1, 29), 81 * 29);
        due.is("36 the next item", x.get(2, 1, 30), 5);
        x.sheet(3, 0, 0);
        due.is("36 no items", x.write(0, 3), 0);
        int[][] bad = {{-1, 0}, {2, 0}, {0, -1}, {0, 4}};
        for (int[] row : bad) due.is("36 BAD", x.write(row[0], row[1]), -2);
    }

    private static void promise37Count() {
        SoundPaid x = Due.street("c1c1;c2c2;c3c3", "c1;c2");
        x.suit(0, 0, 1);
        x.shut(0, 0);
        x.shut(0, 1);
        x.wall(0, 9);
        x.wall(6, 5);
        x.seen(0, 0, 0);
        x.seen(0, 0, 0);
        x.seen(0, 0, 0);
        x.sheet(0, 0, -5);
        int[] counts = {3, 2, 14, 5, 1, 2, 14, 3, 5};
        for (int what = 0; what <= 8; what++) due.is("37 count " + what, x.count(what), counts[what]);
        due.is("37 below", x.count(-1), -2);
        due.is("37 above", x.count(9), -2);
        x.type(0, ';');
        x.type(1, ';');
        due.is("37 no HOUSES with a FAULT", x.count(0), 0);
        due.is("37 no RULINGS with a FAULT", x.count(1), 0);
        due.is("37 bytes with a FAULT", x.count(2), 15);
    }

    private static long fold(long... values) {
        long h = 17;
        for (long value : values) h = 31 * h + value;
        return h;
    }

    private static void promise38DigestOfNothing() {
        long want = fold(0, 0, 0, 0, 0, 0, 0, 0, -1, -1,
            0, -1, -1, 0, -1, -1, 0, -1, -1,
            0, -1, 0, 0, -1, 0, -1, -1,
            0, -1, 0, 0, -1, 0, -1, -1,
            0, -1, 0, 0, -1, 0, -1, -1,
            0, 0);
        due.is("38 of nothing", new SoundPaid().digest(), want);
    }

    /** House 0 leaks smell, 5, which house 1 enjoys; one suit on day 9, at a rate of 2. */
    private static void promise38DigestOfAStreet() {
        SoundPaid x = Due.street("c5o3;o0c4", "c2");
        x.suit(9, 0, 1);
        x.seen(9, 0, 10);
        x.wall(0, 0);
        long open = x.month(7, 20, 0);
        long[] day0 = {0, 0, 0, 0, -1, 0, -1, 0};
        long[] day29 = {210, 0, 1, 0, -1, 1, 0, 0};
        long want = fold(2, 1, 9, 2, 1, 0, 0, 1, -1, -1,
            0, 5, 3, 3, -2, -2, 10, 210, -1, 0, 0, 10, 32, 5, 16, open,
            3, 0, 0, 4, 5, 0, -10, -210, 9, 0, 5, 0, 1023, 0, 1, -open,
            2, 1, 5, 0, 0, 10, 0, 0, 10,
            day0[0], day0[1], day0[2], day0[3], day0[4], day0[5], day0[6], day0[7],
            day0[0], day0[1], day0[2], day0[3], day0[4], day0[5], day0[6], day0[7],
            day29[0], day29[1], day29[2], day29[3], day29[4], day29[5], day29[6], day29[7],
            0, open);
        due.is("38 of a street", x.digest(), want);
    }

    /** A street on which days 9 and 10, 0, 1, 5 and 6, 29 and 28 differ in all that the digest asks. */
    private static void promise38DigestAsTheCallsAnswer() {
        SoundPaid x = Due.street("c9m2;m7c9;c8c0;c6c1", "c2;m3;h1");
        int[][] suits = {{0, 1, 0}, {0, 0, 2}, {1, 2, 0}, {3, 1, 0}, {4, 0, 1}, {5, 1, 2}, {6, 2, 1}, {10, 2, 3},
            {10, 1, 3}, {29, 3, 2}};
        for (int[] row : suits) x.suit(row[0], row[1], row[2]);
        x.wall(1, 1);
        x.shut(10, 0);
        x.shut(2, 2);
        due.is("38 as the calls answer", x.digest(), asTheCallsAnswer(x));
        SoundPaid late = Due.street("c5o0;o0c0", "c1");
        late.suit(10, 0, 1);
        due.is("38 a SUIT on the DAY behind 9", late.digest(), asTheCallsAnswer(late));
    }

    private static long asTheCallsAnswer(SoundPaid x) {
        long[] row = new long[200];
        int n = 0;
        for (int what = 0; what <= 7; what++) row[n++] = x.count(what);
        row[n++] = x.fault(0);
        row[n++] = x.fault(1);
        for (int house = 0; house < x.count(0); house++) {
            for (int what = 0; what <= 3; what++) row[n++] = x.house(house, what);
            row[n++] = x.through(0, house);
            row[n++] = x.owes(9, 0, house);
            row[n++] = x.balance(9, house);
            row[n++] = x.balance(29, house);
            row[n++] = x.broke(house);
            for (int what = 0; what <= 2; what++) row[n++] = x.build(9, house, what);
            row[n++] = x.leaked(house);
            row[n++] = x.court(5, 9, house, 0);
            row[n++] = x.court(5, 9, house, 1);
            row[n++] = x.month(7, 20, house);
        }
        for (int kind = 0; kind <= 2; kind++) {
            row[n++] = x.rate(kind);
            row[n++] = x.fair(9, kind, 0);
            row[n++] = x.fair(9, kind, 1);
        }
        for (int day = 0; day <= 29; day = day == 0 ? 5 : day == 5 ? 29 : 30) {
            row[n++] = x.coin(day);
            row[n++] = x.richest(day);
            row[n++] = x.payments(day);
            row[n++] = x.rings(day, 0);
            row[n++] = x.rings(day, 1);
            row[n++] = x.drop(day, -1);
            row[n++] = x.drop(day, 0);
            row[n++] = x.ask(day);
        }
        row[n++] = x.never();
        row[n++] = x.month(7, 20, -1);
        return fold(java.util.Arrays.copyOf(row, n));
    }
}
