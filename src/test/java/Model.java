import java.math.BigInteger;
import java.util.ArrayList;
import java.util.Arrays;
import java.util.HashSet;
import java.util.List;
import java.util.Set;
import java.util.TreeMap;

/** The document told once more, day by day and case by case, with no care for speed. */
final class Model {
    static final int NONE = -1, BAD = -2, NOT = -3, FULL = -4, ANY = -100000;

    /** All that balances hang on; made anew for each "had it been otherwise". */
    static final class World implements Cloneable {
        List<int[]> houses = new ArrayList<>(); // leaks, much, enjoys, coins
        int[] rates = new int[3];
        int[] walls = new int[7];
        List<int[]> suits = new ArrayList<>(); // day, house, other
        Set<List<Integer>> shut = new HashSet<>(); // day, house

        World copy() {
            World w = new World();
            for (int[] row : houses) w.houses.add(row.clone());
            w.rates = rates.clone();
            w.walls = walls.clone();
            w.suits.addAll(suits);
            w.shut.addAll(shut);
            return w;
        }

        World without(int... dropped) {
            World w = copy();
            for (int i : dropped) w.suits.set(i, null);
            w.suits.removeIf(row -> row == null);
            return w;
        }

        int through(int house, int other) {
            int left = houses.get(house)[1];
            int step = other > house ? 1 : -1;
            int kind = houses.get(house)[0];
            if (kind == 3) return 0;
            for (int at = house; at != other; at += step) {
                int wall = walls[step > 0 ? at : at - 1];
                boolean passesHouse = at != house;
                if (kind == 0) left -= wall + (passesHouse ? 2 : 0);
                if (kind == 1) left -= wall / 2 + (passesHouse ? 1 : 0);
                if (kind == 2 && (wall > 0 || passesHouse)) left = 0;
            }
            return Math.max(left, 0);
        }

        int owes(int day, int house, int other) {
            if (house >= houses.size() || other >= houses.size()) return 0;
            int kind = houses.get(other)[0];
            if (kind == 3 || houses.get(house)[2] != kind) return 0;
            int sum = 0;
            boolean sued = false;
            for (int d = 0; d <= day; d++) {
                for (int[] row : suits) sued |= row[0] == d && row[1] == other && row[2] == house;
                if (sued && !shut.contains(List.of(d, other))) sum += through(other, house) * rates[kind];
            }
            return sum;
        }

        int balance(int day, int house) {
            int sum = 0;
            for (int o = 0; o < houses.size(); o++) {
                if (o != house) sum += owes(day, o, house) - owes(day, house, o);
            }
            return sum;
        }

        int[] balances(int day) {
            int[] row = new int[houses.size()];
            for (int h = 0; h < row.length; h++) row[h] = balance(day, h);
            return row;
        }

        int coin(int day) {
            return Arrays.stream(balances(day)).filter(b -> b > 0).sum();
        }

        int broke(int house) {
            for (int day = 0; day < 30; day++) {
                if (balance(day, house) + houses.get(house)[3] < 0) return day;
            }
            return NONE;
        }

        boolean anyBrokeBy(int day) {
            for (int h = 0; h < houses.size(); h++) {
                int broke = broke(h);
                if (broke != NONE && broke <= day) return true;
            }
            return false;
        }
    }

    final StringBuilder[] texts = {new StringBuilder(), new StringBuilder()};
    final int[] walls = new int[7];
    final List<int[]> suits = new ArrayList<>();
    final List<int[]> shuts = new ArrayList<>();
    final List<int[]> seen = new ArrayList<>();
    final Object[] sheets = new Object[4];
    int finding = 0;

    World world() {
        World w = new World();
        if (fault(0) == NONE && texts[0].length() > 0) {
            for (String row : texts[0].toString().split(";")) {
                w.houses.add(new int[] {"cmho".indexOf(row.charAt(0)), row.charAt(1) - '0',
                    "cmho".indexOf(row.charAt(2)), row.charAt(3) - '0'});
            }
        }
        if (fault(1) == NONE && texts[1].length() > 0) {
            for (String row : texts[1].toString().split(";")) w.rates["cmh".indexOf(row.charAt(0))] = row.charAt(1) - '0';
        }
        w.walls = walls.clone();
        w.suits.addAll(suits);
        for (int[] row : shuts) w.shut.add(List.of(row[0], row[1]));
        return w;
    }

    static boolean in(int n, int low, int high) {
        return low <= n && n <= high;
    }

    boolean isHouse(int h) {
        return in(h, 0, count(0) - 1);
    }

    int type(int text, int b) {
        if (!in(text, 0, 1) || !in(b, 0, 255)) return BAD;
        if (texts[text].length() == (text == 0 ? 39 : 17)) return FULL;
        texts[text].append((char) b);
        return texts[text].length();
    }

    int wipe(int text) {
        if (!in(text, 0, 1)) return BAD;
        int had = texts[text].length();
        texts[text].setLength(0);
        return had;
    }

    int undo(int text) {
        if (!in(text, 0, 1)) return BAD;
        if (texts[text].length() == 0) return NOT;
        texts[text].setLength(texts[text].length() - 1);
        return texts[text].length();
    }

    int fault(int text) {
        if (!in(text, 0, 1)) return BAD;
        String row = text == 0 ? "[cmho][0-9][cmho][0-9]" : "[cmh][0-9]";
        String all = texts[text].toString();
        if (all.isEmpty() || all.matches(row + "(;" + row + ")*")) return NONE;
        // the longest head that some well text begins with
        for (int end = all.length(); end >= 0; end--) {
            for (String tail : text == 0 ? new String[] {"", "c0c0", "0c0", "c0", "0"} : new String[] {"", "c0", "0"}) {
                if ((all.substring(0, end) + tail).matches(row + "(;" + row + ")*")) return end;
            }
        }
        return 0;
    }

    int house(int house, int what) {
        return isHouse(house) && in(what, 0, 3) ? world().houses.get(house)[what] : BAD;
    }

    int rate(int kind) {
        return in(kind, 0, 2) ? world().rates[kind] : BAD;
    }

    int wall(int wall, int thick) {
        if (!in(wall, 0, 6) || !in(thick, 0, 9)) return BAD;
        int was = walls[wall];
        walls[wall] = thick;
        return was;
    }

    int suit(int day, int house, int other) {
        if (!in(day, 0, 29) || !in(house, 0, 7) || !in(other, 0, 7) || house == other) return BAD;
        if (suits.size() == 12) return FULL;
        suits.add(new int[] {day, house, other});
        return suits.size();
    }

    int shut(int day, int house) {
        if (!in(day, 0, 29) || !in(house, 0, 7)) return BAD;
        if (shuts.size() == 8) return FULL;
        shuts.add(new int[] {day, house});
        return shuts.size();
    }

    int back(int what) {
        if (!in(what, 0, 1)) return BAD;
        List<int[]> rows = what == 0 ? suits : shuts;
        if (rows.isEmpty()) return NOT;
        rows.remove(rows.size() - 1);
        return rows.size();
    }

    int find(int number) {
        finding = number;
        return -10 - number;
    }

    static int sizeOf(Object row) {
        return java.lang.reflect.Array.getLength(row);
    }

    static int formOf(Object row) {
        return row instanceof byte[] ? 0 : row instanceof short[] ? 1 : 2;
    }

    static void set(Object row, int i, int v) {
        if (row instanceof byte[]) ((byte[]) row)[i] = (byte) v;
        else if (row instanceof short[]) ((short[]) row)[i] = (short) v;
        else ((int[]) row)[i] = v;
    }

    static int item(Object row, int i) {
        return java.lang.reflect.Array.getInt(row, i);
    }

    int read(int s) {
        if (!in(s, 0, 3)) return BAD;
        Object row = sheets[s];
        if (row == null) return find(1);
        int took = 0;
        while (3 * took + 3 <= sizeOf(row)
            && suit(item(row, 3 * took), item(row, 3 * took + 1), item(row, 3 * took + 2)) > 0) took++;
        return took;
    }

    int through(int house, int other) {
        return isHouse(house) && isHouse(other) && house != other ? world().through(house, other) : BAD;
    }

    int owes(int day, int house, int other) {
        boolean told = in(day, 0, 29) && isHouse(house) && isHouse(other) && house != other;
        return told ? world().owes(day, house, other) : BAD;
    }

    int balance(int day, int house) {
        return in(day, 0, 29) && isHouse(house) ? world().balance(day, house) : ANY + BAD;
    }

    int coin(int day) {
        return in(day, 0, 29) ? world().coin(day) : BAD;
    }

    int broke(int house) {
        return isHouse(house) ? world().broke(house) : BAD;
    }

    int richest(int day) {
        if (!in(day, 0, 29)) return BAD;
        int[] row = world().balances(day);
        if (row.length == 0) return NONE;
        int most = Arrays.stream(row).max().getAsInt();
        int h = 0;
        while (row[h] != most) h++;
        return h;
    }

    int payments(int day) {
        if (!in(day, 0, 29)) return BAD;
        return settle(Arrays.stream(world().balances(day)).filter(b -> b != 0).toArray(), 0);
    }

    /** The first balance left is paid off by or to one of unlike sign, whichever takes the fewest in all. */
    private static int settle(int[] left, int from) {
        int at = from;
        while (at < left.length && left[at] == 0) at++;
        if (at == left.length) return 0;
        int best = Integer.MAX_VALUE;
        for (int i = at + 1; i < left.length; i++) {
            if (Integer.signum(left[i]) != -Integer.signum(left[at])) continue;
            left[i] += left[at];
            best = Math.min(best, 1 + settle(left, at + 1));
            left[i] -= left[at];
        }
        return best;
    }

    int rings(int day, int what) {
        if (!in(day, 0, 29) || !in(what, 0, 1)) return BAD;
        World w = world();
        int n = w.houses.size();
        TreeMap<Integer, Boolean> found = new TreeMap<>();
        for (int a = 0; a < n; a++) {
            for (int b = 0; b < n; b++) {
                for (int c = 0; c < n; c++) {
                    if (a == b || b == c || a == c) continue;
                    if (w.owes(day, a, b) <= 0 || w.owes(day, b, c) <= 0 || w.owes(day, c, a) <= 0) continue;
                    int[] three = {a, b, c};
                    Arrays.sort(three);
                    found.put(64 * three[0] + 8 * three[1] + three[2], true);
                }
            }
        }
        return what == 0 ? found.size() : found.isEmpty() ? NONE : found.firstKey();
    }

    int build(int day, int house, int what) {
        if (!in(day, 0, 29) || !isHouse(house) || !in(what, 0, 2)) return ANY + BAD;
        List<int[]> ways = new ArrayList<>();
        for (int wall = 0; wall < count(0) - 1; wall++) {
            for (int thick = 0; thick <= 9; thick++) {
                World w = world();
                w.walls[wall] = thick;
                ways.add(new int[] {wall, thick, w.balance(day, house)});
            }
        }
        if (ways.isEmpty()) return what == 2 ? ANY : NONE;
        ways.sort((p, q) -> p[2] != q[2] ? q[2] - p[2] : p[1] != q[1] ? p[1] - q[1] : p[0] - q[0]);
        return ways.get(0)[what];
    }

    int fair(int day, int kind, int what) {
        if (!in(day, 0, 29) || !in(kind, 0, 2) || !in(what, 0, 1)) return BAD;
        List<int[]> ways = new ArrayList<>();
        for (int rate = 0; rate <= 9; rate++) {
            World w = world();
            w.rates[kind] = rate;
            if (w.coin(day) > 0) ways.add(new int[] {rate, w.coin(day)});
        }
        if (ways.isEmpty()) return NONE;
        ways.sort((p, q) -> p[1] != q[1] ? p[1] - q[1] : p[0] - q[0]);
        return ways.get(0)[what];
    }

    int drop(int day, int i) {
        if (!in(day, 0, 29) || !in(i, -1, 1)) return BAD;
        int[] row = dropRow(day);
        if (row == null) return NONE;
        return i == NONE ? row.length : i < row.length ? row[i] : NONE;
    }

    private int[] dropRow(int day) {
        World w = world();
        if (!w.anyBrokeBy(day)) return new int[0];
        for (int a = 0; a < suits.size(); a++) {
            if (!w.without(a).anyBrokeBy(day)) return new int[] {a};
        }
        for (int a = 0; a < suits.size(); a++) {
            for (int b = a + 1; b < suits.size(); b++) {
                if (!w.without(a, b).anyBrokeBy(day)) return new int[] {a, b};
            }
        }
        return null;
    }

    int seen(int day, int house, int much) {
        if (!in(day, 0, 29) || !in(house, 0, 7) || !in(much, -999, 999)) return BAD;
        if (seen.size() == 8) return FULL;
        seen.add(new int[] {day, house, much});
        return seen.size();
    }

    int forget() {
        int had = seen.size();
        seen.clear();
        return had;
    }

    private boolean comesOut(World w) {
        for (int[] row : seen) {
            if (row[1] >= w.houses.size() || w.balance(row[0], row[1]) != row[2]) return false;
        }
        return true;
    }

    int never() {
        int bits = 0;
        for (int i = 0; i < suits.size(); i++) {
            if (comesOut(world().without(i))) bits += 1 << i;
        }
        return bits;
    }

    int leaked(int house) {
        if (!isHouse(house)) return BAD;
        int bits = 0;
        for (int much = 0; much <= 9; much++) {
            World w = world();
            w.houses.get(house)[1] = much;
            if (comesOut(w)) bits += 1 << much;
        }
        return bits;
    }

    int ask(int day) {
        if (!in(day, 0, 29)) return BAD;
        int never = never();
        int best = NONE;
        int least = Integer.MAX_VALUE;
        for (int h = 0; h < count(0); h++) {
            TreeMap<Integer, Integer> alike = new TreeMap<>();
            for (int i = 0; i < suits.size(); i++) {
                if ((never & 1 << i) != 0) alike.merge(world().without(i).balance(day, h), 1, Integer::sum);
            }
            int most = alike.values().stream().mapToInt(n -> n).max().orElse(0);
            if (most < least) {
                least = most;
                best = h;
            }
        }
        return best;
    }

    long court(int c, int day, int house, int what) {
        if (!in(c, 0, 16) || !in(day, 0, 29) || !isHouse(house) || !in(what, 0, 1)) return Long.MIN_VALUE + 2;
        BigInteger above = BigInteger.ZERO;
        BigInteger below = BigInteger.valueOf(16).pow(suits.size());
        for (int stand = 0; stand < 1 << suits.size(); stand++) {
            World w = world();
            w.suits.clear();
            for (int i = 0; i < suits.size(); i++) {
                if ((stand & 1 << i) != 0) w.suits.add(suits.get(i));
            }
            if (w.balance(day, house) <= 0) continue;
            int n = w.suits.size();
            above = above.add(BigInteger.valueOf(c).pow(n).multiply(BigInteger.valueOf(16 - c).pow(suits.size() - n)));
        }
        BigInteger common = above.gcd(below);
        return (what == 0 ? above : below).divide(common).longValueExact();
    }

    int month(int seed, int day, int house) {
        if (!in(day, 0, 29) || (house != NONE && !isHouse(house))) return ANY + BAD;
        World w = world();
        w.shut.clear();
        int lot = seed;
        for (int d = 0; d <= day && !w.houses.isEmpty(); d++) {
            lot = 1103515245 * lot + 12345;
            w.shut.add(List.of(d, (int) ((lot & 0xffffffffL) / 65536 % w.houses.size())));
        }
        return house == NONE ? w.coin(day) : w.balance(day, house);
    }

    int sheet(int s, int form, int n) {
        if (!in(s, 0, 3) || !in(form, 0, 2) || n > 60) return BAD;
        if (n < 0) return find(5);
        sheets[s] = form == 0 ? new byte[n] : form == 1 ? new short[n] : new int[n];
        return n;
    }

    int lose(int s) {
        if (!in(s, 0, 3)) return BAD;
        if (sheets[s] == null) return find(1);
        int had = sizeOf(sheets[s]);
        sheets[s] = null;
        return had;
    }

    int put(int s, int form, int i, int v) {
        if (!in(s, 0, 3) || !in(form, 0, 2)) return BAD;
        if (sheets[s] == null) return find(1);
        if (formOf(sheets[s]) != form) return find(3);
        if (!in(i, 0, sizeOf(sheets[s]) - 1)) return find(2);
        set(sheets[s], i, v);
        return 1;
    }

    int get(int s, int form, int i) {
        int least = Integer.MIN_VALUE;
        if (!in(s, 0, 3) || !in(form, 0, 2)) return least;
        int number = sheets[s] == null ? 1 : formOf(sheets[s]) != form ? 3 : !in(i, 0, sizeOf(sheets[s]) - 1) ? 2 : 0;
        if (number == 0) return item(sheets[s], i);
        finding = number;
        return least;
    }

    int copy(int s, int i, int t, int j, int n) {
        if (!in(s, 0, 3) || !in(t, 0, 3)) return BAD;
        if (sheets[s] == null || sheets[t] == null) return find(1);
        try {
            System.arraycopy(sheets[s], i, sheets[t], j, n);
            return 1;
        } catch (ArrayStoreException e) {
            return find(4);
        } catch (IndexOutOfBoundsException e) {
            return find(2);
        }
    }

    int write(int house, int s) {
        if (!isHouse(house) || !in(s, 0, 3)) return BAD;
        if (sheets[s] == null) return find(1);
        int n = Math.min(30, sizeOf(sheets[s]));
        for (int day = 0; day < n; day++) set(sheets[s], day, balance(day, house));
        return n;
    }

    int count(int what) {
        int[] counts = {world().houses.size(), 0, texts[0].length(), texts[1].length(), suits.size(), shuts.size(),
            Arrays.stream(walls).sum(), seen.size(), finding};
        if (fault(1) == NONE && texts[1].length() > 0) counts[1] = texts[1].toString().split(";").length;
        return in(what, 0, 8) ? counts[what] : BAD;
    }

    long digest() {
        List<Long> row = new ArrayList<>();
        for (int i = 0; i <= 7; i++) row.add((long) count(i));
        row.add((long) fault(0));
        row.add((long) fault(1));
        for (int h = 0; h < count(0); h++) {
            for (int i = 0; i <= 3; i++) row.add((long) house(h, i));
            int[] next = {through(0, h), owes(9, 0, h), balance(9, h), balance(29, h), broke(h),
                build(9, h, 0), build(9, h, 1), build(9, h, 2), leaked(h)};
            for (int n : next) row.add((long) n);
            row.add(court(5, 9, h, 0));
            row.add(court(5, 9, h, 1));
            row.add((long) month(7, 20, h));
        }
        for (int kind = 0; kind <= 2; kind++) {
            for (int n : new int[] {rate(kind), fair(9, kind, 0), fair(9, kind, 1)}) row.add((long) n);
        }
        for (int day : new int[] {0, 5, 29}) {
            int[] next = {coin(day), richest(day), payments(day), rings(day, 0), rings(day, 1), drop(day, NONE),
                drop(day, 0), ask(day)};
            for (int n : next) row.add((long) n);
        }
        row.add((long) never());
        row.add((long) month(7, 20, NONE));
        long h = 17;
        for (long n : row) h = 31 * h + n;
        return h;
    }
}
