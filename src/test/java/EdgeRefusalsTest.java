import java.util.ArrayList;
import java.util.List;
import java.util.function.ToLongFunction;

/** What the document says of all refusals, act by act: which of them comes first, and that they change nothing. */
public final class EdgeRefusalsTest extends Edges {
    private static final String FIRST = "Refusals, the first that fits, in the order told at each act: "
        + "BAD -2 (a number not as told, no such thing), NULL, NOT -3 (as told), FULL -4, other FINDINGS.";
    private static final String NOTHING = "They change nothing (FINDINGS but count() 8).";

    public static void main(String[] args) throws Exception {
        run(EdgeRefusalsTest.class);
    }

    /** Full of texts, suits, shut days and what was seen; sheets 0 to 2 of bytes, shorts and ints, 3 is lost. */
    private static SoundPaid crowded() {
        SoundPaid x = street("c9c0;c8c1;c7c2;c9c3;c6c4;c9c5;c8c6;c9c7", "c2;m2;h1;c1;m5;c3");
        for (int wall = 0; wall < 7; wall++) x.wall(wall, wall % 3);
        for (int n = 0; n < 12; n++) x.suit(n, n % 8, (n + 1 + n / 8) % 8);
        for (int n = 0; n < 8; n++) x.shut(n + 2, n);
        for (int n = 0; n < 7; n++) x.seen(0, 3, 0);
        x.seen(0, 2, 0);
        fill(x, 0, BYTES, 1, -2, 3);
        fill(x, 1, SHORTS, 300, -300);
        fill(x, 2, INTS, 0, 1, 100000, LEAST);
        return x;
    }

    /** All that can be asked, and then once more as it is undone piece by piece; the object is of no use behind it. */
    private static List<Long> allOf(SoundPaid x) {
        List<Long> row = new ArrayList<>();
        row.add(x.digest());
        for (int s = 0; s < 3; s++) {
            for (int i = 0; i < 4; i++) row.add((long) x.get(s, s, i));
        }
        for (int s = 0; s < 4; s++) row.add((long) x.lose(s));
        for (int left = 8; left > 0; left--) {
            row.add((long) x.back(1));
            for (int house = 0; house < 8; house++) row.add((long) x.balance(29, house));
        }
        for (int left = 12; left > 0; left--) {
            row.add((long) x.back(0));
            for (int house = 0; house < 8; house++) row.add((long) x.balance(29, house));
        }
        row.add((long) x.forget());
        for (int wall = 0; wall < 7; wall++) row.add((long) x.wall(wall, 0));
        for (int text = 0; text < 2; text++) {
            for (int left = 39; left > 0; left -= 2) {
                row.add((long) x.fault(text));
                row.add((long) x.undo(text));
                row.add((long) x.undo(text));
            }
        }
        return row;
    }

    private static void refused(String call, SoundPaid x, SoundPaid twin, long due, ToLongFunction<SoundPaid> asked) {
        // a latest finding that is not the one to come
        for (SoundPaid each : List.of(x, twin)) {
            if (due == NULL) each.sheet(3, BYTES, -1);
            else each.lose(3);
        }
        int finding = due <= NULL && due >= SIZE ? (int) (-10 - due) : 1;
        is(call, asked.applyAsLong(x), due);
        is(call + ", then count(8)", x.count(8), finding);
        is(call + ", then all", allOf(x).equals(allOf(twin)) ? 1 : 0, 1);
    }

    private static void refused(String call, long due, ToLongFunction<SoundPaid> asked) {
        refused(call, crowded(), crowded(), due, asked);
    }

    private static void refusedByNone(String call, long due, ToLongFunction<SoundPaid> asked) {
        refused(call, new SoundPaid(), new SoundPaid(), due, asked);
    }

    static void promise02To04TextsAreAsTheyWere() {
        sentence(2, NOTHING);
        refused("type(2, 99)", BAD, x -> x.type(2, 'c'));
        refused("type(-1, 99)", BAD, x -> x.type(-1, 'c'));
        refused("type(0, 256)", BAD, x -> x.type(0, 256));
        refused("type(1, -1)", BAD, x -> x.type(1, -1));
        refused("type(0, 59)", FULL, x -> x.type(0, ';'));
        refused("type(1, 59)", FULL, x -> x.type(1, ';'));
        refused("wipe(2)", BAD, x -> x.wipe(2));
        refused("wipe(-1)", BAD, x -> x.wipe(-1));
        refused("undo(2)", BAD, x -> x.undo(2));
        refused("undo(-1)", BAD, x -> x.undo(-1));
        refusedByNone("type(0, 256)", BAD, x -> x.type(0, 256));
        refusedByNone("type(1, -1)", BAD, x -> x.type(1, -1));
        refusedByNone("undo(0)", NOT, x -> x.undo(0));
        refusedByNone("undo(1)", NOT, x -> x.undo(1));
    }

    static void promise08To11TheStreetIsAsItWas() {
        sentence(8, NOTHING);
        refused("wall(7, 1)", BAD, x -> x.wall(7, 1));
        refused("wall(-1, 1)", BAD, x -> x.wall(-1, 1));
        refused("wall(3, 10)", BAD, x -> x.wall(3, 10));
        refused("wall(3, -1)", BAD, x -> x.wall(3, -1));
        refused("suit(30, 0, 1)", BAD, x -> x.suit(30, 0, 1));
        refused("suit(0, 8, 1)", BAD, x -> x.suit(0, 8, 1));
        refused("suit(0, 1, 1)", BAD, x -> x.suit(0, 1, 1));
        refused("suit(0, 0, 1)", FULL, x -> x.suit(0, 0, 1));
        refused("shut(30, 0)", BAD, x -> x.shut(30, 0));
        refused("shut(0, 8)", BAD, x -> x.shut(0, 8));
        refused("shut(0, 0)", FULL, x -> x.shut(0, 0));
        refused("back(2)", BAD, x -> x.back(2));
        refused("back(-1)", BAD, x -> x.back(-1));
        refusedByNone("suit(-1, 0, 1)", BAD, x -> x.suit(-1, 0, 1));
        refusedByNone("suit(0, 5, 5)", BAD, x -> x.suit(0, 5, 5));
        refusedByNone("shut(0, -1)", BAD, x -> x.shut(0, -1));
        refusedByNone("back(0)", NOT, x -> x.back(0));
        refusedByNone("back(1)", NOT, x -> x.back(1));
    }

    static void promise12ReadChangesNothing() {
        sentence(12, NOTHING);
        refused("read(4)", BAD, x -> x.read(4));
        refused("read(-1)", BAD, x -> x.read(-1));
        refused("read(3)", NULL, x -> x.read(3));
        refusedByNone("read(4)", BAD, x -> x.read(4));
        refusedByNone("read(0)", NULL, x -> x.read(0));
    }

    static void promise14To30QuestionsChangeNothing() {
        sentence(14, NOTHING);
        refused("through(0, 0)", BAD, x -> x.through(0, 0));
        refused("owes(30, 0, 1)", BAD, x -> x.owes(30, 0, 1));
        refused("balance(0, 8)", ANY_BAD, x -> x.balance(0, 8));
        refused("coin(30)", BAD, x -> x.coin(30));
        refused("broke(8)", BAD, x -> x.broke(8));
        refused("richest(-1)", BAD, x -> x.richest(-1));
        refused("payments(-1)", BAD, x -> x.payments(-1));
        refused("rings(0, 2)", BAD, x -> x.rings(0, 2));
        refused("build(0, 0, 3)", ANY_BAD, x -> x.build(0, 0, 3));
        refused("fair(0, 3, 0)", BAD, x -> x.fair(0, 3, 0));
        refused("drop(0, 2)", BAD, x -> x.drop(0, 2));
        refused("leaked(8)", BAD, x -> x.leaked(8));
        refused("ask(30)", BAD, x -> x.ask(30));
        refused("court(17, 0, 0, 0)", LONG_BAD, x -> x.court(17, 0, 0, 0));
        refused("month(7, 30, 0)", ANY_BAD, x -> x.month(7, 30, 0));
        refused("count(9)", BAD, x -> x.count(9));
    }

    static void promise24SeenChangesNothing() {
        sentence(24, NOTHING);
        refused("seen(30, 0, 0)", BAD, x -> x.seen(30, 0, 0));
        refused("seen(0, 8, 0)", BAD, x -> x.seen(0, 8, 0));
        refused("seen(0, 0, 1000)", BAD, x -> x.seen(0, 0, 1000));
        refused("seen(0, 0, 0)", FULL, x -> x.seen(0, 0, 0));
        refusedByNone("seen(0, 8, 0)", BAD, x -> x.seen(0, 8, 0));
        refusedByNone("seen(0, 0, -1000)", BAD, x -> x.seen(0, 0, -1000));
    }

    static void promise31To36SheetsAreAsTheyWere() {
        sentence(31, NOTHING);
        refused("sheet(4, 0, 5)", BAD, x -> x.sheet(4, 0, 5));
        refused("sheet(0, 3, 5)", BAD, x -> x.sheet(0, 3, 5));
        refused("sheet(0, 0, 61)", BAD, x -> x.sheet(0, 0, 61));
        refused("sheet(0, 2, -1)", SIZE, x -> x.sheet(0, INTS, -1));
        refused("lose(4)", BAD, x -> x.lose(4));
        refused("lose(3)", NULL, x -> x.lose(3));
        refused("put(4, 0, 0, 9)", BAD, x -> x.put(4, 0, 0, 9));
        refused("put(0, 3, 0, 9)", BAD, x -> x.put(0, 3, 0, 9));
        refused("put(3, 0, 0, 9)", NULL, x -> x.put(3, 0, 0, 9));
        refused("put(0, 1, 0, 9)", CAST, x -> x.put(0, SHORTS, 0, 9));
        refused("put(0, 0, 3, 9)", INDEX, x -> x.put(0, BYTES, 3, 9));
        refused("copy(2, 0, 4, 0, 1)", BAD, x -> x.copy(2, 0, 4, 0, 1));
        refused("copy(2, 0, 3, 0, 1)", NULL, x -> x.copy(2, 0, 3, 0, 1));
        refused("copy(2, 0, 1, 0, 1)", STORE, x -> x.copy(2, 0, 1, 0, 1));
        refused("copy(2, 0, 2, 1, 4)", INDEX, x -> x.copy(2, 0, 2, 1, 4));
        refused("write(8, 0)", BAD, x -> x.write(8, 0));
        refused("write(0, 4)", BAD, x -> x.write(0, 4));
        refused("write(0, 3)", NULL, x -> x.write(0, 3));
        refusedByNone("write(0, 0)", BAD, x -> x.write(0, 0));
        refusedByNone("put(0, 0, 0, 0)", NULL, x -> x.put(0, 0, 0, 0));
    }

    static void promise34GetTellsByCount8() {
        sentence(34, NOTHING);
        refused("get(4, 0, 0)", LEAST, x -> x.get(4, 0, 0));
        SoundPaid x = crowded();
        SoundPaid twin = crowded();
        is("NULL", x.get(3, 0, 0), LEAST);
        is("count(8)", x.count(8), 1);
        is("CAST", x.get(0, 2, 0), LEAST);
        is("count(8)", x.count(8), 3);
        is("INDEX", x.get(0, 0, 3), LEAST);
        is("count(8)", x.count(8), 2);
        is("all", allOf(x).equals(allOf(twin)) ? 1 : 0, 1);
    }

    // ---- the first that fits.

    static void promise02To11BadComesFirst() {
        sentence(2, FIRST);
        SoundPaid full = crowded();
        is("BAD ahead of FULL: type, byte", full.type(0, 256), BAD);
        is("BAD ahead of FULL: type, byte of rulings", full.type(1, -1), BAD);
        is("BAD ahead of FULL: suit, day", full.suit(30, 0, 1), BAD);
        is("BAD ahead of FULL: suit, house", full.suit(0, 8, 1), BAD);
        is("BAD ahead of FULL: suit, other", full.suit(0, 0, -1), BAD);
        is("BAD ahead of FULL: suit against itself", full.suit(0, 1, 1), BAD);
        is("BAD ahead of FULL: shut, day", full.shut(-1, 0), BAD);
        is("BAD ahead of FULL: shut, house", full.shut(0, 8), BAD);
        is("BAD ahead of FULL: seen, day", full.seen(30, 0, 0), BAD);
        is("BAD ahead of FULL: seen, house", full.seen(0, -1, 0), BAD);
        is("BAD ahead of FULL: seen, so much", full.seen(0, 0, 1000), BAD);
        SoundPaid none = new SoundPaid();
        is("BAD ahead of NOT: undo", none.undo(2), BAD);
        is("BAD ahead of NOT: back", none.back(2), BAD);
    }

    static void promise31To36InTheOrderTold() {
        sentence(31, FIRST);
        SoundPaid x = crowded();
        is("BAD ahead of SIZE: sheet", x.sheet(4, 0, -1), BAD);
        is("BAD ahead of SIZE: form", x.sheet(0, -1, -1), BAD);
        is("BAD ahead of NULL: put, form", x.put(3, 3, 0, 0), BAD);
        is("BAD ahead of INDEX: put, form", x.put(0, -1, 99, 0), BAD);
        is("BAD ahead of NULL: copy, t", x.copy(3, 0, 4, 0, 0), BAD);
        is("BAD ahead of STORE: copy, t", x.copy(0, 0, -1, 0, 0), BAD);
        is("BAD ahead of NULL: write, house", x.write(8, 3), BAD);
        is("BAD is no FINDING", x.count(8), 0);
        is("get, form", x.get(3, 3, 0), LEAST);
        is("BAD ahead of NULL: get", x.count(8), 0);
        is("NULL ahead of CAST, INDEX: put", x.put(3, SHORTS, -1, 0), NULL);
        is("CAST ahead of INDEX: put", x.put(0, SHORTS, -1, 0), CAST);
        is("CAST", x.count(8), 3);
        is("get", x.get(3, SHORTS, -1), LEAST);
        is("NULL ahead of INDEX: get", x.count(8), 1);
        is("get", x.get(0, SHORTS, -1), LEAST);
        is("CAST ahead of INDEX: get", x.count(8), 3);
        is("NULL ahead of STORE, INDEX: copy", x.copy(0, -1, 3, -1, -1), NULL);
        is("NULL ahead of STORE, INDEX: copy", x.copy(3, -1, 0, -1, -1), NULL);
        is("STORE ahead of INDEX: copy", x.copy(0, -1, 1, -1, -1), STORE);
    }

    // ---- how refusals are told.

    static void promise15AnyNumbers() {
        sentence(15, "Where any number is told, a refusal is -100000 less x");
        SoundPaid x = crowded();
        is("balance", x.balance(30, 0), -100000 - 2);
        is("build, the BALANCE", x.build(30, 0, 2), -100000 - 2);
        is("build, the WALL", x.build(30, 0, 0), -100000 - 2);
        is("month, the BALANCE", x.month(0, 30, 0), -100000 - 2);
        is("month, COIN", x.month(0, 30, NONE), -100000 - 2);
        is("month, no such HOUSE", x.month(0, 0, 8), -100000 - 2);
    }

    static void promise29Longs() {
        sentence(29, "where the answer is a long, the least long and x more.");
        SoundPaid x = crowded();
        is("c", x.court(17, 0, 0, 0), Long.MIN_VALUE + 2);
        is("day", x.court(0, 30, 0, 1), Long.MIN_VALUE + 2);
        is("house", x.court(0, 0, 8, 0), Long.MIN_VALUE + 2);
        is("what", x.court(0, 0, 0, 2), Long.MIN_VALUE + 2);
    }

    static void promise09NumbersOfRefusals() {
        sentence(9, "public static final int NONE = -1, BAD = -2, NOT = -3, FULL = -4;");
        is("NONE", SoundPaid.NONE, -1);
        is("BAD", SoundPaid.BAD, -2);
        is("NOT", SoundPaid.NOT, -3);
        is("FULL", SoundPaid.FULL, -4);
    }
}
