/** Promises 21 to 30: plans, what was seen, courts, months. */
public final class PlansTest {
    private static final Due due = new Due();

    public static void main(String[] args) {
        promise21Build();
        promise22Fair();
        promise23Drop();
        promise24Seen();
        promise25Forget();
        promise26Never();
        promise27Leaked();
        promise28Ask();
        promise29Court();
        promise30Month();
        due.end();
    }

    private static void dueBuild(SoundPaid x, int day, int house, int wall, int thick, int balance) {
        due.is("21 wall", x.build(day, house, 0), wall);
        due.is("21 thick", x.build(day, house, 1), thick);
        due.is("21 balance", x.build(day, house, 2), balance);
    }

    private static void promise21Build() {
        SoundPaid x = Due.street("c5o0;o0c0", "c1");
        x.wall(0, 2);
        x.suit(0, 0, 1);
        dueBuild(x, 0, 0, 0, 0, 5);
        dueBuild(x, 0, 1, 0, 5, 0);
        due.is("21 nothing is built", x.count(6), 2);
        due.is("21 nothing is built", x.balance(0, 0), 3);
        SoundPaid two = Due.street("c5o0;o0c0;c4o0", "c1");
        dueBuild(two, 0, 1, 0, 0, 0);
        two.suit(0, 0, 1);
        two.suit(0, 2, 1);
        dueBuild(two, 0, 1, 0, 5, -4);
        dueBuild(two, 1, 1, 0, 5, -8);
        dueBuild(two, 1, 2, 0, 0, 8);
        // of two walls that do as well the first
        SoundPaid far = Due.street("c9o0;o0o0;o0c0", "c1");
        far.suit(0, 0, 2);
        dueBuild(far, 0, 2, 0, 7, 0);
        SoundPaid late = Due.street("o0o0;c5o0;o0c0", "c1");
        late.suit(0, 1, 2);
        dueBuild(late, 0, 2, 1, 5, 0);
        SoundPaid one = Due.street("c5o0", "c1");
        dueBuild(one, 0, 0, -1, -1, -100000);
        int[][] bad = {{-1, 0, 0}, {30, 0, 0}, {0, -1, 0}, {0, 2, 0}, {0, 0, -1}, {0, 0, 3}};
        for (int[] row : bad) due.is("21 BAD", x.build(row[0], row[1], row[2]), -100002);
    }

    private static void dueFair(SoundPaid x, int day, int kind, int rate, int coin) {
        due.is("22 rate", x.fair(day, kind, 0), rate);
        due.is("22 coin", x.fair(day, kind, 1), coin);
    }

    private static void promise22Fair() {
        SoundPaid x = Due.street("c5o0;o0c0", "c7");
        dueFair(x, 0, 0, -1, -1);
        x.suit(0, 0, 1);
        dueFair(x, 0, 0, 1, 5);
        dueFair(x, 1, 0, 1, 10);
        dueFair(x, 0, 1, 0, 35);
        due.is("22 its own stays", x.rate(0), 7);
        due.is("22 its own stays", x.coin(0), 35);
        SoundPaid even = Due.street("c4m0;m4c0", "c1;m3");
        even.suit(0, 0, 1);
        even.suit(0, 1, 0);
        dueFair(even, 0, 0, 2, 4);
        dueFair(even, 0, 1, 0, 4);
        SoundPaid steep = Due.street("c1m0;m9c0", "m9");
        steep.suit(0, 0, 1);
        steep.suit(0, 1, 0);
        dueFair(steep, 0, 0, 9, 72);
        dueFair(new SoundPaid(), 0, 0, -1, -1);
        int[][] bad = {{-1, 0, 0}, {30, 0, 0}, {0, -1, 0}, {0, 3, 0}, {0, 0, -1}, {0, 0, 2}};
        for (int[] row : bad) due.is("22 BAD", x.fair(row[0], row[1], row[2]), -2);
    }

    private static void dueDrop(SoundPaid x, int day, int number, int first, int second) {
        due.is("23 how many", x.drop(day, -1), number);
        due.is("23 first", x.drop(day, 0), first);
        due.is("23 second", x.drop(day, 1), second);
    }

    private static void promise23Drop() {
        SoundPaid x = Due.street("c5o0;o0c4", "c1");
        dueDrop(x, 29, 0, -1, -1);
        x.suit(1, 0, 1);
        dueDrop(x, 0, 0, -1, -1);
        dueDrop(x, 1, 1, 0, -1);
        x.suit(3, 0, 1);
        dueDrop(x, 2, 1, 0, -1);
        dueDrop(x, 3, 2, 0, 1);
        x.suit(5, 0, 1);
        dueDrop(x, 4, 2, 0, 1);
        dueDrop(x, 5, -1, -1, -1);
        SoundPaid either = Due.street("c5o0;o0c5;c4o0", "c1");
        either.suit(0, 0, 1);
        either.suit(0, 2, 1);
        dueDrop(either, 0, 1, 0, -1);
        // dropping the suit that pays for another one would not do
        SoundPaid paid = Due.street("c9o0;c5c0;o0c0", "c1");
        paid.suit(0, 1, 2);
        paid.suit(0, 0, 1);
        dueDrop(paid, 0, 2, 0, 1);
        // broke on an earlier day counts, though coin comes later
        SoundPaid early = Due.street("c5o0;c9c4;o0c9", "c1");
        early.suit(0, 0, 1);
        early.suit(1, 1, 2);
        due.is("23 rich by then", early.balance(2, 1), 3);
        dueDrop(early, 1, 1, 0, -1);
        // house 0, sued by a house that is shut for a while
        SoundPaid shut = Due.street("o0c6;c5o0", "c1");
        shut.suit(0, 1, 0);
        shut.shut(1, 1);
        shut.shut(2, 0);
        dueDrop(shut, 1, 0, -1, -1);
        dueDrop(shut, 2, 1, 0, -1);
        due.is("23 asks twice, drops nothing", shut.count(4), 1);
        int[][] bad = {{-1, 0}, {30, 0}, {0, -2}, {0, 2}};
        for (int[] row : bad) due.is("23 BAD", x.drop(row[0], row[1]), -2);
    }

    private static void promise24Seen() {
        SoundPaid x = new SoundPaid();
        int[][] bad = {{-1, 0, 0}, {30, 0, 0}, {0, -1, 0}, {0, 8, 0}, {0, 0, -1000}, {0, 0, 1000}};
        for (int[] row : bad) due.is("24 BAD", x.seen(row[0], row[1], row[2]), -2);
        for (int n = 1; n <= 8; n++) due.is("24 how many", x.seen(29, 7, n % 2 == 0 ? 999 : -999), n);
        due.is("24 FULL", x.seen(0, 0, 0), -4);
        for (int[] row : bad) due.is("24 BAD ahead of FULL", x.seen(row[0], row[1], row[2]), -2);
        due.is("24 eight", x.count(7), 8);
    }

    private static void promise25Forget() {
        SoundPaid x = new SoundPaid();
        due.is("25 none", x.forget(), 0);
        x.seen(0, 0, 1);
        x.seen(0, 0, 2);
        due.is("25 two", x.forget(), 2);
        due.is("25 none left", x.count(7), 0);
        due.is("25 anew", x.seen(0, 0, 1), 1);
    }

    /** House 1 owes house 0 5 a day, and house 2 3 a day. */
    private static SoundPaid twoCooks() {
        SoundPaid x = Due.street("c5o9;o0c9;c3o9", "c1");
        x.suit(0, 0, 1);
        x.suit(0, 2, 1);
        return x;
    }

    private static void promise26Never() {
        SoundPaid x = twoCooks();
        due.is("26 nothing seen", x.never(), 3);
        x.seen(0, 1, -5);
        due.is("26 the second", x.never(), 2);
        x.seen(1, 1, -10);
        due.is("26 the second", x.never(), 2);
        x.seen(1, 0, 0);
        due.is("26 not all of it", x.never(), 0);
        x.forget();
        x.seen(0, 1, -8);
        due.is("26 with all of them", x.never(), 0);
        x.forget();
        x.suit(1, 0, 1);
        x.seen(1, 0, 5);
        due.is("26 a later suit counts then", x.never(), 1);
        x.forget();
        x.seen(0, 3, 0);
        due.is("26 no such house", x.never(), 0);
        due.is("26 no suits", new SoundPaid().never(), 0);
    }

    private static void promise27Leaked() {
        SoundPaid x = twoCooks();
        due.is("27 nothing seen", x.leaked(0), 1023);
        x.seen(0, 0, 7);
        due.is("27 seven", x.leaked(0), 128);
        due.is("27 not by another's", x.leaked(2), 0);
        x.forget();
        x.seen(0, 1, -8);
        due.is("27 five", x.leaked(0), 32);
        due.is("27 three", x.leaked(2), 8);
        due.is("27 it leaks nothing", x.leaked(1), 1023);
        due.is("27 its own stays", x.house(0, 1), 5);
        due.is("27 its own stays", x.balance(0, 0), 5);
        SoundPaid far = Due.street("c9o0;o0o0;o0c0", "c1");
        far.suit(0, 0, 2);
        far.seen(0, 0, 0);
        due.is("27 0 at least", far.leaked(0), 7);
        far.seen(0, 5, 0);
        due.is("27 no such house", far.leaked(0), 0);
        due.is("27 below", x.leaked(-1), -2);
        due.is("27 above", x.leaked(3), -2);
    }

    private static void promise28Ask() {
        SoundPaid x = Due.street("o0o0;c5o0;o0c0;c3o0", "c1");
        x.suit(1, 1, 2);
        x.suit(1, 3, 2);
        due.is("28 alike behind day 0", x.ask(0), 0);
        due.is("28 unlike", x.ask(1), 1);
        x.suit(1, 0, 3);
        due.is("28 the one that tells all three", x.ask(1), 2);
        x.seen(1, 2, -8);
        due.is("28 one is left", x.never(), 4);
        due.is("28 one is left", x.ask(1), 0);
        due.is("28 below", x.ask(-1), -2);
        due.is("28 above", x.ask(30), -2);
        due.is("28 no houses", new SoundPaid().ask(0), -1);
        due.is("28 no suits", Due.street("c1c1;c1c1", "").ask(0), 0);
    }

    private static void dueCourt(SoundPaid x, int c, int day, int house, long above, long below) {
        due.is("29 above", x.court(c, day, house, 0), above);
        due.is("29 below", x.court(c, day, house, 1), below);
    }

    private static void promise29Court() {
        SoundPaid x = Due.street("c5m0;m5c0", "c1;m1");
        dueCourt(x, 4, 0, 0, 0, 1);
        x.suit(0, 0, 1);
        dueCourt(x, 4, 0, 0, 1, 4);
        dueCourt(x, 0, 0, 0, 0, 1);
        dueCourt(x, 16, 0, 0, 1, 1);
        dueCourt(x, 1, 0, 0, 1, 16);
        dueCourt(x, 15, 0, 1, 0, 1);
        x.suit(1, 0, 1);
        dueCourt(x, 4, 0, 0, 1, 4);
        dueCourt(x, 4, 1, 0, 7, 16);
        x.back(0);
        x.suit(0, 1, 0);
        dueCourt(x, 4, 0, 0, 3, 16);
        dueCourt(x, 4, 0, 1, 3, 16);
        dueCourt(x, 16, 0, 0, 0, 1);
        x.shut(0, 1);
        dueCourt(x, 4, 0, 0, 1, 4);
        // houses 1 and 2 between themselves are nothing to house 0
        SoundPaid three = Due.street("c5c0;c4c0;c3c0", "c1");
        three.suit(0, 0, 1);
        three.suit(0, 1, 2);
        three.suit(0, 2, 1);
        dueCourt(three, 4, 0, 0, 1, 4);
        dueCourt(three, 4, 0, 1, 3, 16);
        // to house 1 the suits of 0 and of 2 against it are two: it stays above 0 by 4 less 3
        SoundPaid four = Due.street("c5c0;c4c0;c3c0", "c1");
        four.suit(0, 1, 2);
        four.suit(0, 2, 1);
        four.suit(0, 0, 1);
        dueCourt(four, 8, 0, 1, 1, 4);
        dueCourt(four, 8, 0, 0, 1, 2);
        dueCourt(four, 8, 0, 2, 1, 4);
        SoundPaid little = Due.street("c1o0;o0c0", "c1");
        little.suit(0, 0, 1);
        dueCourt(little, 4, 0, 0, 1, 4);
        SoundPaid wide = Due.street("c9c0;c9c0;c9c0;c9c0;c9c0;c9c0;c9c0;c9c0", "c1");
        wide.suit(0, 3, 7);
        wide.suit(0, 0, 3);
        dueCourt(wide, 8, 0, 3, 1, 4);
        SoundPaid many = Due.street("c9o0;o0c0", "c1");
        for (int n = 0; n < 12; n++) many.suit(0, 0, 1);
        dueCourt(many, 1, 0, 0, 281474976710656L - 129746337890625L, 281474976710656L);
        long refused = Long.MIN_VALUE + 2;
        int[][] bad = {{-1, 0, 0, 0}, {17, 0, 0, 0}, {0, -1, 0, 0}, {0, 30, 0, 0}, {0, 0, -1, 0}, {0, 0, 2, 0},
            {0, 0, 0, -1}, {0, 0, 0, 2}};
        for (int[] row : bad) due.is("29 BAD", x.court(row[0], row[1], row[2], row[3]), refused);
    }

    private static void promise30Month() {
        SoundPaid x = Due.street("c5o0;o0c0", "c1");
        x.suit(0, 0, 1);
        due.is("30 house 0 is shut", x.month(1, 0, 0), 0);
        due.is("30 house 1 is shut", x.month(3, 0, 0), 5);
        due.is("30 below 0", x.month(3, 0, 1), -5);
        due.is("30 coin", x.month(3, 0, -1), 5);
        x.shut(0, 0);
        due.is("30 in place of what is told", x.month(3, 0, 0), 5);
        due.is("30 what is told stays", x.balance(0, 0), 0);
        int open = 0;
        int lot = 7;
        for (int day = 0; day <= 20; day++) {
            lot = 1103515245 * lot + 12345;
            if ((lot >>> 16) % 2 != 0) open++;
        }
        due.is("30 a LOT for each DAY", x.month(7, 20, 0), 5 * open);
        due.is("30 a seed below 0", x.month(-1, 0, 0), lotOf(-1) % 2 == 0 ? 0 : 5);
        due.is("30 no houses", new SoundPaid().month(1, 29, -1), 0);
        due.is("30 no houses", new SoundPaid().month(1, 29, 0), -100002);
        int[][] bad = {{0, -1, 0}, {0, 30, 0}, {0, 0, -2}, {0, 0, 2}, {0, 30, -1}};
        for (int[] row : bad) due.is("30 BAD", x.month(row[0], row[1], row[2]), -100002);
    }

    private static int lotOf(int seed) {
        return 1103515245 * seed + 12345 >>> 16;
    }
}
