import java.util.Random;

/** Promises 1 to 38: runs of calls drawn by fixed seeds, each answer compared with the model's. */
public final class AgainstModelTest {
    private static final Due due = new Due();

    private final SoundPaid x = new SoundPaid();
    private final Model m = new Model();
    private final Random random;
    private final String run;

    private AgainstModelTest(int seed) {
        random = new Random(seed);
        run = "run " + seed + ": ";
    }

    public static void main(String[] args) {
        int runs = args.length > 0 ? Integer.parseInt(args[0]) : 300;
        int first = args.length > 1 ? Integer.parseInt(args[1]) : 0;
        for (int seed = first; seed < first + runs; seed++) new AgainstModelTest(seed).go();
        due.end();
    }

    private void go() {
        int calls = 0;
        for (char sign : houses().toCharArray()) type(0, sign);
        for (char sign : rulings().toCharArray()) type(1, sign);
        int dense = random.nextInt(13);
        for (int i = 0; i < dense; i += 3) threeSuits(house(), house(), house());
        while (calls < 300) {
            if (random.nextInt(25) == 0) askAll();
            else change();
            if (calls % 100 == 0) due.is(run + "digest()", x.digest(), m.digest());
            calls++;
        }
    }

    private int any(int low, int high) {
        if (random.nextInt(60) == 0) return new int[] {low - 1, high + 1, Integer.MIN_VALUE, Integer.MAX_VALUE}[random.nextInt(4)];
        return low + random.nextInt(high - low + 1);
    }

    private int day() {
        return random.nextBoolean() ? any(0, 6) : any(0, 29);
    }

    private int house() {
        return any(0, Math.max(0, m.count(0) - 1));
    }

    private int place() {
        return random.nextInt(12) == 0 ? any(0, 7) : house();
    }

    private String houses() {
        int number = random.nextInt(10) == 0 ? random.nextInt(2) : 2 + random.nextInt(7);
        String kinds = new String[] {"cmho", "cmh", "cccm", "mmmc", "mmmm", "m", "c"}[random.nextInt(7)];
        StringBuilder text = new StringBuilder();
        for (int i = 0; i < number; i++) {
            if (i > 0) text.append(';');
            text.append(kinds.charAt(random.nextInt(kinds.length()))).append(random.nextInt(10));
            text.append(kinds.charAt(random.nextInt(kinds.length()))).append(random.nextInt(10));
        }
        return text.toString();
    }

    private String rulings() {
        StringBuilder text = new StringBuilder();
        int number = random.nextInt(5) == 0 ? random.nextInt(4) : 3 + random.nextInt(4);
        for (int i = 0; i < number; i++) {
            if (i > 0) text.append(';');
            text.append("cmh".charAt(i % 3)).append(random.nextInt(4) == 0 ? random.nextInt(10) : 1 + random.nextInt(3));
        }
        return text.toString();
    }

    private void type(int text, int b) {
        due.is(run + "type(" + text + ", " + b + ")", x.type(text, b), m.type(text, b));
    }

    private void suit(int day, int house, int other) {
        due.is(run + "suit", x.suit(day, house, other), m.suit(day, house, other));
    }

    private void change() {
        int a = any(0, 1);
        int s = any(0, 3);
        int form = random.nextInt(3) == 0 ? any(0, 2) : 0;
        int i = any(0, 12);
        switch (random.nextInt(22)) {
            case 0: if (random.nextInt(4) == 0) typeAny(); break;
            case 1: if (random.nextInt(20) == 0) due.is(run + "wipe", x.wipe(a), m.wipe(a)); break;
            case 2: if (random.nextInt(8) == 0) due.is(run + "undo", x.undo(a), m.undo(a)); break;
            case 3: retype(); break;
            case 4: if (random.nextInt(2) == 0) wall(); break;
            case 5: if (random.nextInt(6) == 0) noWalls(); break;
            case 6: case 7: suit(day(), place(), place()); break;
            case 8: threeSuits(house(), house(), house()); break;
            case 9: case 10: shut(day(), place()); break;
            case 11: if (random.nextInt(2) == 0) due.is(run + "back", x.back(a), m.back(a)); break;
            case 12: if (random.nextInt(40) == 0) undoAllSuits(); break;
            case 13: due.is(run + "read", x.read(s), m.read(s)); break;
            case 14: sheet(s, form, random.nextBoolean() ? any(0, 12) : any(0, 60)); break;
            case 15: if (random.nextInt(4) == 0) due.is(run + "lose", x.lose(s), m.lose(s)); break;
            case 16: case 17: put(s, form, i); break;
            case 18: copy(s, i, any(0, 3), any(0, 12), any(0, 6)); break;
            case 19: write(house(), s); break;
            case 20: seen(day(), place()); break;
            default: if (random.nextInt(2) == 0) due.is(run + "forget", x.forget(), m.forget()); break;
        }
        askOne();
    }

    private void typeAny() {
        if (random.nextInt(6) == 0) type(any(0, 1), any(0, 255));
        else type(any(0, 1), "cmho;0123456789".charAt(random.nextInt(15)));
    }

    /** Broken texts are soon mended, so that most questions find houses. */
    private void retype() {
        int text = random.nextInt(2);
        if (m.texts[text].length() > 0 && m.fault(text) == -1 && random.nextInt(6) != 0) return;
        due.is(run + "wipe", x.wipe(text), m.wipe(text));
        for (char sign : (text == 0 ? houses() : rulings()).toCharArray()) type(text, sign);
    }

    private void wall() {
        int wall = any(0, 6);
        int thick = any(0, 9);
        due.is(run + "wall", x.wall(wall, thick), m.wall(wall, thick));
    }

    private void noWalls() {
        for (int wall = 0; wall <= 6; wall++) due.is(run + "wall", x.wall(wall, 0), m.wall(wall, 0));
    }

    private void shut(int day, int house) {
        due.is(run + "shut", x.shut(day, house), m.shut(day, house));
    }

    private void threeSuits(int a, int b, int c) {
        suit(day(), a, b);
        suit(day(), b, c);
        suit(day(), c, a);
    }

    private void undoAllSuits() {
        int left = random.nextInt(6);
        while (m.suits.size() > left) due.is(run + "back", x.back(0), m.back(0));
    }

    private void sheet(int s, int form, int n) {
        due.is(run + "sheet", x.sheet(s, form, n), m.sheet(s, form, n));
    }

    private void put(int s, int form, int i) {
        int v = random.nextInt(4) == 0 ? random.nextInt() : i % 3 == 0 ? day() : place();
        due.is(run + "put", x.put(s, form, i, v), m.put(s, form, i, v));
    }

    private void copy(int s, int i, int t, int j, int n) {
        due.is(run + "copy", x.copy(s, i, t, j, n), m.copy(s, i, t, j, n));
    }

    private void write(int house, int s) {
        due.is(run + "write", x.write(house, s), m.write(house, s));
    }

    /** Mostly what some suit less, or another leak, would have brought, so that something is left to find. */
    private void seen(int day, int house) {
        int much = any(-999, 999);
        boolean told = Model.in(day, 0, 29) && Model.in(house, 0, m.count(0) - 1);
        if (told && random.nextInt(6) != 0) {
            Model.World w = m.world();
            int way = random.nextInt(3);
            if (!m.suits.isEmpty() && way == 0) w = w.without(random.nextInt(m.suits.size()));
            if (way == 1) w.houses.get(random.nextInt(w.houses.size()))[1] = random.nextInt(10);
            much = w.balance(day, house);
        }
        due.is(run + "seen", x.seen(day, house, much), m.seen(day, house, much));
    }

    private void askOne() {
        int day = day();
        int h = house();
        int o = house();
        int what = any(0, 1);
        int s = any(0, 3);
        switch (random.nextInt(24)) {
            case 0: due.is(run + "fault", x.fault(what), m.fault(what)); break;
            case 1: house(h, any(0, 3)); break;
            case 2: rate(any(0, 2)); break;
            case 3: due.is(run + "through", x.through(h, o), m.through(h, o)); break;
            case 4: due.is(run + "owes", x.owes(day, h, o), m.owes(day, h, o)); break;
            case 5: due.is(run + "balance", x.balance(day, h), m.balance(day, h)); break;
            case 6: due.is(run + "coin", x.coin(day), m.coin(day)); break;
            case 7: due.is(run + "broke", x.broke(h), m.broke(h)); break;
            case 8: due.is(run + "richest", x.richest(day), m.richest(day)); break;
            case 9: due.is(run + "payments", x.payments(day), m.payments(day)); break;
            case 10: due.is(run + "rings", x.rings(day, what), m.rings(day, what)); break;
            case 11: build(day, h, any(0, 2)); break;
            case 12: fair(day, any(0, 2), what); break;
            case 13: drop(day, any(-1, 1)); break;
            case 14: case 15: due.is(run + "never", x.never(), m.never()); break;
            case 16: case 17: due.is(run + "leaked", x.leaked(h), m.leaked(h)); break;
            case 18: case 19: due.is(run + "ask", x.ask(day), m.ask(day)); break;
            case 20: if (random.nextInt(6) == 0) court(any(0, 16), day, h, what); break;
            case 21: month(random.nextInt(), day, random.nextInt(3) == 0 ? -1 : h); break;
            case 22: get(s, any(0, 2), any(0, 12)); break;
            default: count(any(0, 8)); break;
        }
    }

    private void house(int house, int what) {
        due.is(run + "house", x.house(house, what), m.house(house, what));
    }

    private void rate(int kind) {
        due.is(run + "rate", x.rate(kind), m.rate(kind));
    }

    private void build(int day, int house, int what) {
        due.is(run + "build", x.build(day, house, what), m.build(day, house, what));
    }

    private void fair(int day, int kind, int what) {
        due.is(run + "fair", x.fair(day, kind, what), m.fair(day, kind, what));
    }

    private void drop(int day, int i) {
        due.is(run + "drop", x.drop(day, i), m.drop(day, i));
    }

    private void court(int c, int day, int house, int what) {
        due.is(run + "court", x.court(c, day, house, what), m.court(c, day, house, what));
    }

    private void month(int seed, int day, int house) {
        due.is(run + "month", x.month(seed, day, house), m.month(seed, day, house));
    }

    private void get(int s, int form, int i) {
        due.is(run + "get", x.get(s, form, i), m.get(s, form, i));
    }

    private void count(int what) {
        due.is(run + "count", x.count(what), m.count(what));
    }

    private void askAll() {
        int day = day();
        for (int what = 0; what <= 8; what++) count(what);
        for (int h = 0; h < m.count(0); h++) {
            due.is(run + "balance", x.balance(day, h), m.balance(day, h));
            due.is(run + "broke", x.broke(h), m.broke(h));
            due.is(run + "leaked", x.leaked(h), m.leaked(h));
            build(day, h, random.nextInt(3));
            month(random.nextInt(), Math.floorMod(day, 30), h);
        }
        for (int i = -1; i <= 1; i++) drop(day, i);
        due.is(run + "payments", x.payments(day), m.payments(day));
        due.is(run + "rings", x.rings(day, 0), m.rings(day, 0));
        due.is(run + "rings", x.rings(day, 1), m.rings(day, 1));
        due.is(run + "ask", x.ask(day), m.ask(day));
        for (int s = 0; s < 4; s++) {
            for (int form = 0; form < 3; form++) get(s, form, random.nextInt(12));
        }
    }
}
