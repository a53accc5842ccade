/** Promises 13 to 20: what comes through, debts, balances, coin, payments, rings. */
public final class DebtsTest {
    private static final Due due = new Due();

    public static void main(String[] args) {
        promise13Through();
        promise14Owes();
        promise15Balance();
        promise16Coin();
        promise17Broke();
        promise18Richest();
        promise19Payments();
        promise20Rings();
        due.end();
    }

    private static void promise13Through() {
        SoundPaid x = Due.street("c9o0;m9o0;h9o0;o9o0;m8o0", "");
        int[][] open = {{0, 9, 7, 5, 3}, {9, 0, 9, 8, 7}, {0, 9, 0, 9, 0}, {0, 0, 0, 0, 0}, {5, 6, 7, 8, 0}};
        dueThrough(x, open);
        x.wall(0, 3);
        x.wall(1, 1);
        int[][] walled = {{0, 6, 3, 1, 0}, {8, 0, 9, 8, 7}, {0, 0, 0, 9, 0}, {0, 0, 0, 0, 0}, {4, 6, 7, 8, 0}};
        dueThrough(x, walled);
        x.shut(0, 0);
        dueThrough(x, walled);
        x.wall(1, 4);
        x.wall(2, 5);
        due.is("13 half of 4", x.through(1, 2), 7);
        due.is("13 half of 4, half of 5 cut", x.through(1, 3), 4);
        due.is("13 from the other side", x.through(4, 1), 2);
        int[][] bad = {{0, 0}, {-1, 0}, {0, -1}, {5, 0}, {0, 5}};
        for (int[] row : bad) due.is("13 BAD", x.through(row[0], row[1]), -2);
    }

    private static void dueThrough(SoundPaid x, int[][] rows) {
        for (int house = 0; house < rows.length; house++) {
            for (int other = 0; other < rows.length; other++) {
                if (house == other) continue;
                due.is("13 from " + house + " to " + other, x.through(house, other), rows[house][other]);
            }
        }
    }

    private static void promise14Owes() {
        SoundPaid x = Due.street("c5c0;o0c0;m7c9", "c2;m3");
        due.is("14 no suit", x.owes(4, 1, 0), 0);
        x.suit(3, 0, 1);
        due.is("14 before it", x.owes(2, 1, 0), 0);
        due.is("14 its day", x.owes(3, 1, 0), 10);
        due.is("14 a day later", x.owes(4, 1, 0), 20);
        x.suit(1, 0, 1);
        due.is("14 first by days", x.owes(4, 1, 0), 40);
        x.suit(2, 0, 1);
        due.is("14 a later one adds nothing", x.owes(4, 1, 0), 40);
        x.shut(2, 0);
        due.is("14 shut", x.owes(4, 1, 0), 30);
        x.shut(2, 0);
        due.is("14 shut twice", x.owes(4, 1, 0), 30);
        x.shut(3, 1);
        due.is("14 the debtor shut", x.owes(4, 1, 0), 30);
        due.is("14 the other way", x.owes(4, 0, 1), 0);
        x.suit(0, 2, 0);
        due.is("14 not enjoyed", x.owes(29, 0, 2), 0);
        x.suit(0, 0, 2);
        due.is("14 a house between", x.owes(0, 2, 0), 6);
        int[][] bad = {{-1, 0, 1}, {30, 0, 1}, {0, 0, 0}, {0, 3, 0}, {0, 0, 3}, {0, -1, 0}, {0, 0, -1}};
        for (int[] row : bad) due.is("14 BAD", x.owes(row[0], row[1], row[2]), -2);
    }

    private static void promise15Balance() {
        SoundPaid x = Due.street("c5c0;c2c0;o0c0", "c2");
        x.suit(0, 0, 1);
        x.suit(2, 1, 0);
        x.suit(1, 0, 2);
        x.suit(0, 0, 7);
        due.is("15 day 0", x.balance(0, 0), 10);
        due.is("15 day 1", x.balance(1, 0), 26);
        due.is("15 day 2", x.balance(2, 0), 38);
        due.is("15 below 0", x.balance(2, 1), -26);
        due.is("15 below 0", x.balance(2, 2), -12);
        x.undo(0);
        due.is("15 no such house now", x.balance(2, 0), -100002);
        x.wipe(0);
        Due.type(x, 0, "c5c0;c2c0");
        due.is("15 one that there is not pays nothing", x.balance(2, 0), 26);
        x.suit(0, 2, 0);
        due.is("15 one that there is not is paid nothing", x.balance(2, 0), 26);
        x.back(0);
        Due.type(x, 0, ";o0c0");
        due.is("15 it is there again", x.balance(2, 0), 38);
        x.wall(0, 1);
        due.is("15 another wall", x.balance(0, 0), 8);
        Due.type(x, 1, ";c9");
        due.is("15 another rate", x.balance(0, 0), 36);
        int[][] bad = {{-1, 0}, {30, 0}, {0, -1}, {0, 3}};
        for (int[] row : bad) due.is("15 BAD", x.balance(row[0], row[1]), -100002);
    }

    private static void promise16Coin() {
        SoundPaid x = Due.street("c5o0;o0c0;o0c0;m4o0;o0m0", "c2;m1");
        due.is("16 none", x.coin(29), 0);
        x.suit(0, 0, 1);
        x.suit(0, 3, 4);
        x.suit(1, 0, 2);
        due.is("16 day 0", x.coin(0), 14);
        due.is("16 day 1", x.coin(1), 34);
        due.is("16 below", x.coin(-1), -2);
        due.is("16 above", x.coin(30), -2);
        due.is("16 no houses", new SoundPaid().coin(0), 0);
    }

    private static void promise17Broke() {
        SoundPaid x = Due.street("c5o0;o0c5;o0c4", "c1");
        x.suit(3, 0, 1);
        due.is("17 by just its coins is not yet", x.broke(1), 4);
        due.is("17 never", x.broke(0), -1);
        due.is("17 not sued", x.broke(2), -1);
        x.suit(29, 0, 2);
        due.is("17 3 is not more than 4", x.broke(2), -1);
        x.suit(28, 0, 2);
        due.is("17 the last day", x.broke(2), 29);
        due.is("17 below", x.broke(-1), -2);
        due.is("17 above", x.broke(3), -2);
    }

    private static void promise18Richest() {
        SoundPaid x = Due.street("o0c0;c5o0;c5o0;o0c0", "c1");
        due.is("18 all alike", x.richest(0), 0);
        x.suit(0, 2, 3);
        x.suit(1, 1, 0);
        due.is("18 day 0", x.richest(0), 2);
        x.back(0);
        x.suit(0, 1, 0);
        due.is("18 two alike", x.richest(0), 1);
        due.is("18 below", x.richest(-1), -2);
        due.is("18 above", x.richest(30), -2);
        due.is("18 no houses", new SoundPaid().richest(0), -1);
        SoundPaid first = Due.street("o0c0;c5o0", "c1");
        first.suit(0, 1, 0);
        due.is("18 first one owes", first.richest(0), 1);
    }

    private static void promise19Payments() {
        SoundPaid pairs = Due.street("c5o0;o0c0;o0c0;c5o0", "c1");
        due.is("19 none", pairs.payments(0), 0);
        pairs.suit(0, 0, 1);
        due.is("19 one", pairs.payments(0), 1);
        pairs.suit(0, 3, 2);
        due.is("19 two that owe two", pairs.payments(0), 2);
        SoundPaid chain = Due.street("c5o0;c5c0;o0c0", "c1");
        chain.suit(0, 0, 1);
        chain.suit(0, 1, 2);
        due.is("19 a chain", chain.payments(0), 1);
        SoundPaid two = Due.street("c5o0;o0c0;o0c0", "c1");
        two.suit(0, 0, 1);
        two.suit(0, 0, 2);
        due.is("19 two that owe one", two.payments(0), 2);
        // 8 and -8, -6 and 6; then 8 and -8, -6 and 14 and -8
        SoundPaid groups = Due.street("c9o0;o0c0;o0m0;m8c0;o0m0", "c1;m1");
        groups.wall(0, 3);
        groups.suit(0, 0, 1);
        groups.suit(0, 0, 3);
        groups.suit(0, 3, 4);
        due.is("19 balances", groups.balance(0, 0), 8);
        due.is("19 balances", groups.balance(0, 3), 6);
        due.is("19 two groups of two", groups.payments(0), 2);
        groups.suit(0, 3, 2);
        due.is("19 groups of two and of three", groups.payments(0), 3);
        due.is("19 below", two.payments(-1), -2);
        due.is("19 above", two.payments(30), -2);
        due.is("19 no houses", new SoundPaid().payments(0), 0);
    }

    private static void promise20Rings() {
        SoundPaid x = Due.street("c9c0;c9c0;c9c0;c9c0", "c1");
        x.suit(0, 1, 2);
        x.suit(0, 2, 3);
        due.is("20 open", x.rings(0, 0), 0);
        due.is("20 open", x.rings(0, 1), -1);
        x.suit(1, 3, 1);
        due.is("20 not yet", x.rings(0, 0), 0);
        due.is("20 one", x.rings(1, 0), 1);
        due.is("20 which", x.rings(1, 1), 64 + 16 + 3);
        x.suit(1, 1, 3);
        x.suit(1, 3, 2);
        x.suit(1, 2, 1);
        due.is("20 by both ways, once", x.rings(1, 0), 1);
        x.suit(2, 0, 1);
        x.suit(2, 3, 0);
        due.is("20 two", x.rings(2, 0), 2);
        due.is("20 the least", x.rings(2, 1), 8 + 3);
        x.shut(2, 0);
        due.is("20 owes nothing yet", x.rings(2, 0), 1);
        SoundPaid little = Due.street("c3c0;c2c0;c3c0", "c1");
        little.suit(0, 0, 1);
        little.suit(0, 1, 2);
        little.suit(0, 2, 0);
        due.is("20 1 a day", little.owes(0, 0, 2), 1);
        due.is("20 1 a day is enough", little.rings(0, 1), 8 + 2);
        int[][] bad = {{-1, 0}, {30, 0}, {0, -1}, {0, 2}};
        for (int[] row : bad) due.is("20 BAD", x.rings(row[0], row[1]), -2);
    }
}
