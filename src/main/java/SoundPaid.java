import java.util.Arrays;

/** Houses side by side, what leaks from one to another, and who owes whom what for it. */
public final class SoundPaid {
    public static final int NONE = -1, BAD = -2, NOT = -3, FULL = -4;

    private static final int NULL = 1, INDEX = 2, CAST = 3, STORE = 4, SIZE = 5;
    private static final int SMELL = 0, SOUND = 1, HEAT = 2;
    private static final int BYTES = 0, SHORTS = 1;
    private static final int DAYS = 30, KINDS = 3, FORMS = 3;
    private static final int MOST_HOUSES = 8, MOST_WALLS = 7, MOST_SUITS = 12, MOST_SHUT = 8;
    private static final int MOST_SEEN = 8, MOST_ITEMS = 60;
    private static final int FIGURES = 10, SIXTEENTHS = 16, MOST_BALANCE = 999;
    private static final int ANY = -100000, ANY_BAD = ANY + BAD;
    private static final int[] DIGEST_DAYS = {0, 5, 29};

    private final Text houseText;
    private final Text rulingText;
    private final Debts debts;
    private final Street street;
    private final Docket docket;
    private final Memory memory;
    private final Bench bench;
    private final Sheet[] sheets;
    private final int[] outcomes;
    private int finding;

    public SoundPaid() {
        houseText = new Text(39, 5, "cmho");
        rulingText = new Text(17, 3, "cmh");
        debts = new Debts();
        street = debts.street;
        docket = debts.docket;
        memory = new Memory();
        bench = new Bench();
        sheets = new Sheet[] {new Sheet(), new Sheet(), new Sheet(), new Sheet()};
        outcomes = new int[MOST_SUITS];
        finding = 0;
    }

    // ---- houses, rulings, walls, suits.

    public int type(int text, int b) {
        if (!isText(text) || b < 0 || b > 255) return BAD;
        Text typed = textOf(text);
        if (typed.isFull()) return FULL;
        typed.append(b);
        takeText(text);
        return typed.size;
    }

    public int wipe(int text) {
        if (!isText(text)) return BAD;
        int had = textOf(text).size;
        textOf(text).size = 0;
        takeText(text);
        return had;
    }

    public int undo(int text) {
        if (!isText(text)) return BAD;
        Text typed = textOf(text);
        if (typed.size == 0) return NOT;
        typed.size--;
        takeText(text);
        return typed.size;
    }

    public int fault(int text) {
        return isText(text) ? textOf(text).faultPlace() : BAD;
    }

    public int house(int house, int what) {
        if (!isHouse(house)) return BAD;
        switch (what) {
            case 0: return street.leaks[house];
            case 1: return street.much[house];
            case 2: return street.enjoys[house];
            case 3: return street.coins[house];
            default: return BAD;
        }
    }

    public int rate(int kind) {
        return isKind(kind) ? street.rates[kind] : BAD;
    }

    public int wall(int wall, int thick) {
        if (wall < 0 || wall >= MOST_WALLS || thick < 0 || thick >= FIGURES) return BAD;
        int was = street.thick[wall];
        street.thick[wall] = thick;
        debts.priceSuits();
        return was;
    }

    public int suit(int day, int house, int other) {
        if (!isDay(day) || !isPlace(house) || !isPlace(other) || house == other) return BAD;
        if (docket.suits >= MOST_SUITS) return FULL;
        docket.addSuit(day, house, other);
        debts.priceSuits();
        return docket.suits;
    }

    public int shut(int day, int house) {
        if (!isDay(day) || !isPlace(house)) return BAD;
        if (docket.shuts >= MOST_SHUT) return FULL;
        docket.addShut(day, house);
        return docket.shuts;
    }

    public int back(int what) {
        if (what != 0 && what != 1) return BAD;
        if ((what == 0 ? docket.suits : docket.shuts) == 0) return NOT;
        return what == 0 ? docket.undoSuit() : docket.undoShut();
    }

    public int read(int s) {
        if (!isSheet(s)) return BAD;
        Sheet sheet = sheets[s];
        if (sheet.isLost()) return found(NULL);
        int taken = 0;
        for (int i = 0; i + 3 <= sheet.size; i += 3) {
            if (suit(sheet.items[i], sheet.items[i + 1], sheet.items[i + 2]) < 0) break;
            taken++;
        }
        return taken;
    }

    // ---- debts.

    public int through(int house, int other) {
        return areTwoHouses(house, other) ? street.comesThrough(house, other) : BAD;
    }

    public int owes(int day, int house, int other) {
        return isDay(day) && areTwoHouses(house, other) ? debts.owed(day, house, other) : BAD;
    }

    public int balance(int day, int house) {
        if (!isDay(day) || !isHouse(house)) return ANY_BAD;
        return debts.balanceOf(day, house, docket.leadingOfAll());
    }

    public int coin(int day) {
        return isDay(day) ? debts.coinDue(day) : BAD;
    }

    public int broke(int house) {
        if (!isHouse(house)) return BAD;
        int leading = docket.leadingOfAll();
        for (int day = 0; day < DAYS; day++) {
            if (debts.balanceOf(day, house, leading) < -street.coins[house]) return day;
        }
        return NONE;
    }

    public int richest(int day) {
        if (!isDay(day)) return BAD;
        debts.fillBalances(day);
        int richest = NONE;
        for (int house = 0; house < street.houses; house++) {
            if (richest == NONE || debts.balances[house] > debts.balances[richest]) richest = house;
        }
        return richest;
    }

    public int payments(int day) {
        return isDay(day) ? debts.fewestPayments(day) : BAD;
    }

    public int rings(int day, int what) {
        if (!isDay(day) || (what != 0 && what != 1)) return BAD;
        debts.fillOwing(day);
        int number = 0;
        int least = NONE;
        for (int a = 0; a < street.houses; a++) {
            for (int b = a + 1; b < street.houses; b++) {
                for (int c = b + 1; c < street.houses; c++) {
                    if (!debts.isRing(a, b, c)) continue;
                    number++;
                    if (least == NONE) least = 64 * a + 8 * b + c;
                }
            }
        }
        return what == 0 ? number : least;
    }

    // ---- plans.

    public int build(int day, int house, int what) {
        if (!isDay(day) || !isHouse(house) || what < 0 || what > 2) return ANY_BAD;
        int leading = docket.leadingOfAll();
        int bestWall = NONE;
        int bestThick = NONE;
        int best = ANY;
        for (int thick = 0; thick < FIGURES; thick++) {
            for (int wall = 0; wall + 1 < street.houses; wall++) {
                int own = street.thick[wall];
                street.thick[wall] = thick;
                debts.priceSuits();
                int balance = debts.balanceOf(day, house, leading);
                street.thick[wall] = own;
                if (bestWall != NONE && balance <= best) continue;
                bestWall = wall;
                bestThick = thick;
                best = balance;
            }
        }
        debts.priceSuits();
        return what == 0 ? bestWall : what == 1 ? bestThick : best;
    }

    public int fair(int day, int kind, int what) {
        if (!isDay(day) || !isKind(kind) || (what != 0 && what != 1)) return BAD;
        int own = street.rates[kind];
        int bestRate = NONE;
        int best = NONE;
        for (int rate = 0; rate < FIGURES; rate++) {
            street.rates[kind] = rate;
            debts.priceSuits();
            int coin = debts.coinDue(day);
            if (coin == 0 || (bestRate != NONE && coin >= best)) continue;
            bestRate = rate;
            best = coin;
        }
        street.rates[kind] = own;
        debts.priceSuits();
        return what == 0 ? bestRate : best;
    }

    public int drop(int day, int i) {
        if (!isDay(day) || i < NONE || i > 1) return BAD;
        int dropped = fewestDropped(day);
        if (dropped == NONE) return NONE;
        int number = Integer.bitCount(dropped);
        if (i == NONE) return number;
        if (i >= number) return NONE;
        return Integer.numberOfTrailingZeros(i == 0 ? dropped : dropped & (dropped - 1));
    }

    /** The suits to be dropped, as bits; NONE where no two are enough. */
    private int fewestDropped(int day) {
        int all = docket.allSuits();
        if (debts.staySolvent(day, all)) return 0;
        for (int a = 0; a < docket.suits; a++) {
            if (debts.staySolvent(day, all & ~(1 << a))) return 1 << a;
        }
        for (int a = 0; a < docket.suits; a++) {
            for (int b = a + 1; b < docket.suits; b++) {
                int dropped = 1 << a | 1 << b;
                if (debts.staySolvent(day, all & ~dropped)) return dropped;
            }
        }
        return NONE;
    }

    // ---- seen, courts, months.

    public int seen(int day, int house, int much) {
        if (!isDay(day) || !isPlace(house) || much < -MOST_BALANCE || much > MOST_BALANCE) return BAD;
        if (memory.size >= MOST_SEEN) return FULL;
        memory.add(day, house, much);
        return memory.size;
    }

    public int forget() {
        int had = memory.size;
        memory.size = 0;
        return had;
    }

    public int never() {
        int bits = 0;
        for (int suit = 0; suit < docket.suits; suit++) {
            if (memory.comesOut(debts, docket.leadingWithout(suit))) bits |= 1 << suit;
        }
        return bits;
    }

    public int leaked(int house) {
        if (!isHouse(house)) return BAD;
        int own = street.much[house];
        int leading = docket.leadingOfAll();
        int bits = 0;
        for (int much = 0; much < FIGURES; much++) {
            street.much[house] = much;
            debts.priceSuits();
            if (memory.comesOut(debts, leading)) bits |= 1 << much;
        }
        street.much[house] = own;
        debts.priceSuits();
        return bits;
    }

    public int ask(int day) {
        if (!isDay(day)) return BAD;
        int candidates = never();
        int best = NONE;
        int bestAlike = 0;
        for (int house = 0; house < street.houses; house++) {
            int alike = mostAlike(day, house, candidates);
            if (best != NONE && alike >= bestAlike) continue;
            best = house;
            bestAlike = alike;
        }
        return best;
    }

    /** The greatest number of candidates that one balance of the house would leave. */
    private int mostAlike(int day, int house, int candidates) {
        int number = 0;
        for (int suit = 0; suit < docket.suits; suit++) {
            if ((candidates >> suit & 1) == 0) continue;
            outcomes[number] = debts.balanceOf(day, house, docket.leadingWithout(suit));
            number++;
        }
        int most = 0;
        for (int i = 0; i < number; i++) {
            int alike = 0;
            for (int j = 0; j < number; j++) {
                if (outcomes[j] == outcomes[i]) alike++;
            }
            most = Math.max(most, alike);
        }
        return most;
    }

    public long court(int c, int day, int house, int what) {
        boolean asTold = c >= 0 && c <= SIXTEENTHS && isDay(day) && isHouse(house) && (what == 0 || what == 1);
        if (!asTold) return Long.MIN_VALUE - BAD;
        bench.hear(debts, day, house);
        long above = bench.weightAboveZero(c);
        if (above == 0) return what;
        long below = bench.weightOfAll();
        for (long half = below / 2; half > 0 && above % 2 == 0; half /= 2) {
            above /= 2;
            below = half;
        }
        return what == 0 ? above : below;
    }

    public int month(int seed, int day, int house) {
        if (!isDay(day) || (house != NONE && !isHouse(house))) return ANY_BAD;
        docket.closeByLots(seed, day, street.houses);
        int answer = house == NONE ? debts.coinDue(day) : debts.balanceOf(day, house, docket.leadingOfAll());
        docket.closeAsTold();
        return answer;
    }

    // ---- sheets.

    public int sheet(int s, int form, int n) {
        if (!isSheet(s) || !isForm(form) || n > MOST_ITEMS) return BAD;
        if (n < 0) return found(SIZE);
        sheets[s].renew(form, n);
        return n;
    }

    public int lose(int s) {
        if (!isSheet(s)) return BAD;
        if (sheets[s].isLost()) return found(NULL);
        int had = sheets[s].size;
        sheets[s].becomeLost();
        return had;
    }

    public int put(int s, int form, int i, int v) {
        if (!isSheet(s) || !isForm(form)) return BAD;
        int wrong = wrongWithItem(sheets[s], form, i);
        if (wrong != 0) return found(wrong);
        sheets[s].store(i, v);
        return 1;
    }

    public int get(int s, int form, int i) {
        if (!isSheet(s) || !isForm(form)) return Integer.MIN_VALUE;
        int wrong = wrongWithItem(sheets[s], form, i);
        if (wrong != 0) {
            finding = wrong;
            return Integer.MIN_VALUE;
        }
        return sheets[s].items[i];
    }

    public int copy(int s, int i, int t, int j, int n) {
        if (!isSheet(s) || !isSheet(t)) return BAD;
        Sheet from = sheets[s];
        Sheet to = sheets[t];
        if (from.isLost() || to.isLost()) return found(NULL);
        if (from.form != to.form) return found(STORE);
        if (!from.hasItems(i, n) || !to.hasItems(j, n)) return found(INDEX);
        System.arraycopy(from.items, i, to.items, j, n);
        return 1;
    }

    public int write(int house, int s) {
        if (!isHouse(house) || !isSheet(s)) return BAD;
        Sheet sheet = sheets[s];
        if (sheet.isLost()) return found(NULL);
        int number = Math.min(sheet.size, DAYS);
        int leading = docket.leadingOfAll();
        for (int day = 0; day < number; day++) sheet.store(day, debts.balanceOf(day, house, leading));
        return number;
    }

    public int count(int what) {
        switch (what) {
            case 0: return street.houses;
            case 1: return street.rulings;
            case 2: return houseText.size;
            case 3: return rulingText.size;
            case 4: return docket.suits;
            case 5: return docket.shuts;
            case 6: return street.allThick();
            case 7: return memory.size;
            case 8: return finding;
            default: return BAD;
        }
    }

    public long digest() {
        long h = 17;
        for (int what = 0; what <= 7; what++) h = 31 * h + count(what);
        for (int text = 0; text <= 1; text++) h = 31 * h + fault(text);
        for (int house = 0; house < street.houses; house++) {
            for (int what = 0; what <= 3; what++) h = 31 * h + house(house, what);
            h = 31 * h + through(0, house);
            h = 31 * h + owes(9, 0, house);
            h = 31 * h + balance(9, house);
            h = 31 * h + balance(29, house);
            h = 31 * h + broke(house);
            for (int what = 0; what <= 2; what++) h = 31 * h + build(9, house, what);
            h = 31 * h + leaked(house);
            h = 31 * h + court(5, 9, house, 0);
            h = 31 * h + court(5, 9, house, 1);
            h = 31 * h + month(7, 20, house);
        }
        for (int kind = 0; kind < KINDS; kind++) {
            h = 31 * h + rate(kind);
            h = 31 * h + fair(9, kind, 0);
            h = 31 * h + fair(9, kind, 1);
        }
        for (int day : DIGEST_DAYS) {
            h = 31 * h + coin(day);
            h = 31 * h + richest(day);
            h = 31 * h + payments(day);
            h = 31 * h + rings(day, 0);
            h = 31 * h + rings(day, 1);
            h = 31 * h + drop(day, NONE);
            h = 31 * h + drop(day, 0);
            h = 31 * h + ask(day);
        }
        h = 31 * h + never();
        return 31 * h + month(7, 20, NONE);
    }

    // ---- what the calls share.

    private static boolean isText(int text) {
        return text == 0 || text == 1;
    }

    private static boolean isDay(int day) {
        return day >= 0 && day < DAYS;
    }

    private static boolean isKind(int kind) {
        return kind >= 0 && kind < KINDS;
    }

    private static boolean isForm(int form) {
        return form >= 0 && form < FORMS;
    }

    private boolean isSheet(int s) {
        return s >= 0 && s < sheets.length;
    }

    /** Suits, shut days and what was seen are of any place on the street, with a house or without. */
    private static boolean isPlace(int house) {
        return house >= 0 && house < MOST_HOUSES;
    }

    private boolean isHouse(int house) {
        return house >= 0 && house < street.houses;
    }

    private boolean areTwoHouses(int house, int other) {
        return isHouse(house) && isHouse(other) && house != other;
    }

    private Text textOf(int text) {
        return text == 0 ? houseText : rulingText;
    }

    private void takeText(int text) {
        if (text == 0) street.takeHouses(houseText);
        else street.takeRulings(rulingText);
        debts.priceSuits();
    }

    private int found(int number) {
        finding = number;
        return -10 - number;
    }

    /** The finding that keeps an item from being put or got; 0 where there is none. */
    private static int wrongWithItem(Sheet sheet, int form, int i) {
        if (sheet.isLost()) return NULL;
        if (sheet.form != form) return CAST;
        return i < 0 || i >= sheet.size ? INDEX : 0;
    }

    /** Rows with ; between them, each of kinds and figures in turn. */
    private static final class Text {
        final int[] bytes;
        final int period;
        final String kinds;
        int size;

        Text(int most, int period, String kinds) {
            this.bytes = new int[most];
            this.period = period;
            this.kinds = kinds;
        }

        boolean isFull() {
            return size >= bytes.length;
        }

        void append(int b) {
            bytes[size] = b;
            size++;
        }

        /** A row too many needs no test of its own: a text is full behind its last row. */
        int faultPlace() {
            for (int place = 0; place < size; place++) {
                if (!goesOn(place)) return place;
            }
            boolean ended = size == 0 || size % period == period - 1;
            return ended ? NONE : size;
        }

        private boolean goesOn(int place) {
            int column = place % period;
            int sign = bytes[place];
            if (column == period - 1) return sign == ';';
            if (column % 2 == 1) return sign >= '0' && sign <= '9';
            return kinds.indexOf((char) sign) >= 0;
        }

        int rows() {
            return faultPlace() == NONE ? (size + 1) / period : 0;
        }

        int kindAt(int row, int column) {
            return kinds.indexOf((char) bytes[row * period + column]);
        }

        int figureAt(int row, int column) {
            return bytes[row * period + column] - '0';
        }
    }

    /** The houses, the rates and the walls: what comes through, and what it is worth. */
    private static final class Street {
        private static final int ALL = 9;

        final int[] leaks = new int[MOST_HOUSES];
        final int[] much = new int[MOST_HOUSES];
        final int[] enjoys = new int[MOST_HOUSES];
        final int[] coins = new int[MOST_HOUSES];
        final int[] rates = new int[KINDS];
        final int[] thick = new int[MOST_WALLS];
        int houses;
        int rulings;

        void takeHouses(Text text) {
            houses = Math.min(text.rows(), MOST_HOUSES);
            for (int house = 0; house < houses; house++) {
                leaks[house] = text.kindAt(house, 0);
                much[house] = text.figureAt(house, 1);
                enjoys[house] = text.kindAt(house, 2);
                coins[house] = text.figureAt(house, 3);
            }
        }

        void takeRulings(Text text) {
            Arrays.fill(rates, 0);
            rulings = text.rows();
            for (int ruling = 0; ruling < rulings; ruling++) {
                int kind = text.kindAt(ruling, 0);
                if (isKind(kind)) rates[kind] = text.figureAt(ruling, 1);
            }
        }

        int allThick() {
            int all = 0;
            for (int wall = 0; wall < MOST_WALLS; wall++) all += thick[wall];
            return all;
        }

        int comesThrough(int from, int to) {
            return Math.max(0, much[from] - stopped(leaks[from], Math.min(from, to), Math.max(from, to)));
        }

        private int stopped(int kind, int low, int high) {
            int between = high - low - 1;
            int whole = 0;
            int halves = 0;
            for (int wall = low; wall < high; wall++) {
                whole += thick[wall];
                halves += thick[wall] / 2;
            }
            switch (kind) {
                case SMELL: return 2 * between + whole;
                case SOUND: return between + halves;
                case HEAT: return between == 0 && whole == 0 ? 0 : ALL;
                default: return ALL;
            }
        }

        /** What a day of it is to be paid by; suits may be of houses that there are not. */
        int duePerDay(int from, int to) {
            if (from >= houses || to >= houses) return 0;
            int kind = leaks[from];
            if (!isKind(kind) || enjoys[to] != kind) return 0;
            return comesThrough(from, to) * rates[kind];
        }
    }

    /** The suits, and the days on which houses are shut. */
    private static final class Docket {
        final int[] suitDay = new int[MOST_SUITS];
        final int[] suing = new int[MOST_SUITS];
        final int[] sued = new int[MOST_SUITS];
        final int[] shutDay = new int[MOST_SHUT];
        final int[] shutHouse = new int[MOST_SHUT];
        final int[] closedDays = new int[MOST_HOUSES];
        int suits;
        int shuts;

        void addSuit(int day, int house, int other) {
            suitDay[suits] = day;
            suing[suits] = house;
            sued[suits] = other;
            suits++;
        }

        int undoSuit() {
            suits--;
            return suits;
        }

        void addShut(int day, int house) {
            shutDay[shuts] = day;
            shutHouse[shuts] = house;
            shuts++;
            closeAsTold();
        }

        int undoShut() {
            shuts--;
            closeAsTold();
            return shuts;
        }

        void closeAsTold() {
            Arrays.fill(closedDays, 0);
            for (int i = 0; i < shuts; i++) closedDays[shutHouse[i]] |= 1 << shutDay[i];
        }

        void closeByLots(int seed, int lastDay, int houses) {
            Arrays.fill(closedDays, 0);
            if (houses <= 0) return;
            int lot = seed;
            for (int day = 0; day <= lastDay; day++) {
                lot = 1103515245 * lot + 12345;
                closedDays[(lot >>> 16) % houses] |= 1 << day;
            }
        }

        int allSuits() {
            return (1 << suits) - 1;
        }

        int leadingOfAll() {
            return leading(allSuits());
        }

        int leadingWithout(int suit) {
            return leading(allSuits() & ~(1 << suit));
        }

        /** Of the standing suits those that count: of one house against one other only the first by days. */
        int leading(int standing) {
            int bits = 0;
            for (int suit = 0; suit < suits; suit++) {
                if (leads(suit, standing)) bits |= 1 << suit;
            }
            return bits;
        }

        private boolean leads(int suit, int standing) {
            if ((standing >> suit & 1) == 0) return false;
            for (int rival = 0; rival < suits; rival++) {
                boolean sameTwo = suing[rival] == suing[suit] && sued[rival] == sued[suit];
                if (!sameTwo || (standing >> rival & 1) == 0) continue;
                if (suitDay[rival] < suitDay[suit]) return false;
                if (suitDay[rival] == suitDay[suit] && rival < suit) return false;
            }
            return true;
        }

        /** The days from that of a suit on on which the house that sues is not shut. */
        int openDays(int suit, int lastDay) {
            if (suitDay[suit] > lastDay) return 0;
            int days = (2 << lastDay) - (1 << suitDay[suit]);
            return Integer.bitCount(days & ~closedDays[suing[suit]]);
        }
    }

    /** What the suits come to: debts, balances, and what settles them. */
    private static final class Debts {
        final Street street = new Street();
        final Docket docket = new Docket();
        final int[] balances = new int[MOST_HOUSES];
        private final int[] dues = new int[MOST_SUITS];
        private final int[] owing = new int[MOST_HOUSES];
        private final int[] sums = new int[1 << MOST_HOUSES];
        private final int[] parts = new int[1 << MOST_HOUSES];

        /** Has to follow on whatever changes the street or adds a suit. */
        void priceSuits() {
            for (int suit = 0; suit < docket.suits; suit++) {
                dues[suit] = street.duePerDay(docket.suing[suit], docket.sued[suit]);
            }
        }

        /** What a suit, if it leads, has brought the house that sues. */
        int won(int suit, int day) {
            return dues[suit] * docket.openDays(suit, day);
        }

        int owed(int day, int debtor, int creditor) {
            int leading = docket.leadingOfAll();
            for (int suit = 0; suit < docket.suits; suit++) {
                boolean between = docket.suing[suit] == creditor && docket.sued[suit] == debtor;
                if (between && (leading >> suit & 1) == 1) return won(suit, day);
            }
            return 0;
        }

        int balanceOf(int day, int house, int leading) {
            int balance = 0;
            for (int suit = 0; suit < docket.suits; suit++) {
                if ((leading >> suit & 1) == 0) continue;
                if (docket.suing[suit] == house) balance += won(suit, day);
                else if (docket.sued[suit] == house) balance -= won(suit, day);
            }
            return balance;
        }

        void fillBalances(int day) {
            int leading = docket.leadingOfAll();
            Arrays.fill(balances, 0);
            for (int suit = 0; suit < docket.suits; suit++) {
                if ((leading >> suit & 1) == 0) continue;
                int won = won(suit, day);
                balances[docket.suing[suit]] += won;
                balances[docket.sued[suit]] -= won;
            }
        }

        int coinDue(int day) {
            fillBalances(day);
            int coin = 0;
            for (int house = 0; house < street.houses; house++) coin += Math.max(0, balances[house]);
            return coin;
        }

        /** Each group of houses whose balances make 0 together saves one payment. */
        int fewestPayments(int day) {
            fillBalances(day);
            sums[0] = 0;
            parts[0] = 0;
            int groups = 1 << street.houses;
            for (int group = 1; group < groups; group++) {
                int most = 0;
                for (int house = 0; house < street.houses; house++) {
                    if ((group >> house & 1) == 0) continue;
                    int rest = group & ~(1 << house);
                    sums[group] = sums[rest] + balances[house];
                    most = Math.max(most, parts[rest]);
                }
                parts[group] = sums[group] == 0 ? most + 1 : most;
            }
            return street.houses - parts[groups - 1];
        }

        void fillOwing(int day) {
            Arrays.fill(owing, 0);
            for (int suit = 0; suit < docket.suits; suit++) {
                if (won(suit, day) > 0) owing[docket.sued[suit]] |= 1 << docket.suing[suit];
            }
        }

        boolean isRing(int a, int b, int c) {
            return oweRound(a, b, c) || oweRound(a, c, b);
        }

        private boolean oweRound(int a, int b, int c) {
            return (owing[a] >> b & owing[b] >> c & owing[c] >> a & 1) == 1;
        }

        boolean staySolvent(int lastDay, int standing) {
            int leading = docket.leading(standing);
            Arrays.fill(balances, 0);
            for (int day = 0; day <= lastDay; day++) {
                passDay(day, leading);
                for (int house = 0; house < street.houses; house++) {
                    if (balances[house] < -street.coins[house]) return false;
                }
            }
            return true;
        }

        private void passDay(int day, int leading) {
            for (int suit = 0; suit < docket.suits; suit++) {
                if ((leading >> suit & 1) == 0 || docket.suitDay[suit] > day) continue;
                int house = docket.suing[suit];
                if ((docket.closedDays[house] >> day & 1) == 1) continue;
                balances[house] += dues[suit];
                balances[docket.sued[suit]] -= dues[suit];
            }
        }
    }

    /** The balances that were seen. */
    private static final class Memory {
        private final int[] days = new int[MOST_SEEN];
        private final int[] houses = new int[MOST_SEEN];
        private final int[] amounts = new int[MOST_SEEN];
        int size;

        void add(int day, int house, int amount) {
            days[size] = day;
            houses[size] = house;
            amounts[size] = amount;
            size++;
        }

        boolean comesOut(Debts debts, int leading) {
            for (int i = 0; i < size; i++) {
                if (houses[i] >= debts.street.houses) return false;
                if (debts.balanceOf(days[i], houses[i], leading) != amounts[i]) return false;
            }
            return true;
        }
    }

    /** The suits that bear on one house's balance, by days, each of which stands or is thrown out. */
    private static final class Bench {
        private final int[] gains = new int[MOST_SUITS];
        private final int[] twos = new int[MOST_SUITS];
        private int size;

        void hear(Debts debts, int lastDay, int house) {
            Docket docket = debts.docket;
            size = 0;
            for (int day = 0; day <= lastDay; day++) {
                for (int suit = 0; suit < docket.suits; suit++) {
                    if (docket.suitDay[suit] == day) take(debts, suit, lastDay, house);
                }
            }
        }

        /** A suit that wins nothing changes nothing: no later one of the same two houses wins more. */
        private void take(Debts debts, int suit, int lastDay, int house) {
            int suing = debts.docket.suing[suit];
            int sued = debts.docket.sued[suit];
            int won = debts.won(suit, lastDay);
            if ((suing != house && sued != house) || won == 0) return;
            gains[size] = suing == house ? won : -won;
            twos[size] = suing == house ? 1 << sued : 1 << (MOST_HOUSES + suing);
            size++;
        }

        long weightOfAll() {
            return 1L << 4 * size;
        }

        long weightAboveZero(int c) {
            return weigh(this, c, 0, 0, 0);
        }

        /** Of all ways in which the suits from one on may go, in sixteenths each, those that end above 0. */
        private static long weigh(Bench bench, int c, int suit, int balance, int settled) {
            if (suit >= bench.size) return balance > 0 ? 1 : 0;
            int two = bench.twos[suit];
            if ((settled & two) != 0) return SIXTEENTHS * weigh(bench, c, suit + 1, balance, settled);
            long stands = weigh(bench, c, suit + 1, balance + bench.gains[suit], settled | two);
            long thrownOut = weigh(bench, c, suit + 1, balance, settled);
            return c * stands + (SIXTEENTHS - c) * thrownOut;
        }
    }

    /** A row of bytes, shorts or ints; the items of every form are held as ints. */
    private static final class Sheet {
        private static final int LOST = -1;

        final int[] items = new int[MOST_ITEMS];
        int form = LOST;
        int size;

        boolean isLost() {
            return form == LOST;
        }

        void renew(int newForm, int newSize) {
            Arrays.fill(items, 0);
            form = newForm;
            size = newSize;
        }

        void becomeLost() {
            form = LOST;
            size = 0;
        }

        boolean hasItems(int from, int number) {
            return from >= 0 && number >= 0 && from <= size && number <= size - from;
        }

        void store(int i, int v) {
            items[i] = form == BYTES ? (byte) v : form == SHORTS ? (short) v : v;
        }
    }
}
