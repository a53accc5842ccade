/** Promises 1 to 11: a new object, texts, houses, rates, walls, suits, shut days. */
public final class TextsTest {
    private static final Due due = new Due();

    public static void main(String[] args) {
        promise01NewObject();
        promise02Type();
        promise03Wipe();
        promise04Undo();
        promise05Fault();
        promise06House();
        promise07Rate();
        promise08Wall();
        promise09Suit();
        promise10Shut();
        promise11Back();
        due.end();
    }

    private static void promise01NewObject() {
        SoundPaid used = Due.street("c9c9;c9c9", "c1");
        used.suit(0, 0, 1);
        used.sheet(0, 2, 5);
        SoundPaid x = new SoundPaid();
        for (int what = 0; what <= 8; what++) due.is("1 count " + what, x.count(what), 0);
        due.is("1 house", x.house(0, 0), -2);
        for (int kind = 0; kind < 3; kind++) due.is("1 rate", x.rate(kind), 0);
        for (int wall = 0; wall < 7; wall++) due.is("1 wall", x.wall(wall, 0), 0);
        for (int s = 0; s < 4; s++) due.is("1 lose", x.lose(s), -11);
        due.is("1 NONE", SoundPaid.NONE, -1);
        due.is("1 BAD", SoundPaid.BAD, -2);
        due.is("1 NOT", SoundPaid.NOT, -3);
        due.is("1 FULL", SoundPaid.FULL, -4);
    }

    private static void promise02Type() {
        SoundPaid x = new SoundPaid();
        due.is("2 least byte", x.type(0, 0), 1);
        due.is("2 greatest byte", x.type(1, 255), 1);
        due.is("2 byte below", x.type(0, -1), -2);
        due.is("2 byte above", x.type(0, 256), -2);
        due.is("2 text below", x.type(-1, 99), -2);
        due.is("2 text above", x.type(2, 99), -2);
        for (int n = 2; n <= 39; n++) due.is("2 houses", x.type(0, 'c'), n);
        due.is("2 houses full", x.type(0, 'c'), -4);
        due.is("2 BAD ahead of FULL", x.type(0, 256), -2);
        for (int n = 2; n <= 17; n++) due.is("2 rulings", x.type(1, 'c'), n);
        due.is("2 rulings full", x.type(1, 'c'), -4);
        due.is("2 bytes", x.count(2), 39);
        due.is("2 bytes", x.count(3), 17);
    }

    private static void promise03Wipe() {
        SoundPaid x = Due.street("c1c1;c2c2", "c1;m2");
        due.is("3 houses", x.wipe(0), 9);
        due.is("3 none left", x.count(0), 0);
        due.is("3 rulings stay", x.count(1), 2);
        due.is("3 empty", x.wipe(0), 0);
        due.is("3 rulings", x.wipe(1), 5);
        due.is("3 rate gone", x.rate(1), 0);
        due.is("3 below", x.wipe(-1), -2);
        due.is("3 above", x.wipe(2), -2);
        due.is("3 typed anew", x.type(0, 'h'), 1);
    }

    private static void promise04Undo() {
        SoundPaid x = Due.street("c1c1;", "c7;m");
        due.is("4 faulty", x.count(0), 0);
        due.is("4 houses", x.undo(0), 4);
        due.is("4 well again", x.count(0), 1);
        due.is("4 rulings", x.undo(1), 3);
        due.is("4 rulings", x.undo(1), 2);
        due.is("4 rate again", x.rate(0), 7);
        due.is("4 to none", x.undo(1), 1);
        due.is("4 to none", x.undo(1), 0);
        due.is("4 NOT", x.undo(1), -3);
        due.is("4 below", x.undo(-1), -2);
        due.is("4 above", x.undo(2), -2);
    }

    private static void promise05Fault() {
        String[] wellHouses = {"", "o0o0", "c9m8", "h1o2;m3c4", "c1c1;c1c1;c1c1;c1c1;c1c1;c1c1;c1c1;c1c1"};
        for (String text : wellHouses) due.is("5 " + text, Due.street(text, "").fault(0), -1);
        Object[][] faultyHouses = {{"c", 1}, {"c1", 2}, {"c1c", 3}, {"c1c1;", 5}, {";", 0}, {"x", 0}, {"C1c1", 0},
            {"cc", 1}, {"c:", 1}, {"c/", 1}, {"c1x", 2}, {"c11", 2}, {"c1c;", 3}, {"c1c1c", 4}, {"c1c1,", 4},
            {"c1c1;x", 5}, {"c1c1;c1c1;c", 11}, {"c1x1;y", 2}, {"\0", 0}, {"c1c1\u00ff", 4}, {" ", 0}};
        for (Object[] row : faultyHouses) {
            SoundPaid x = Due.street((String) row[0], "");
            due.is("5 " + row[0], x.fault(0), (int) row[1]);
            due.is("5 as if empty " + row[0], x.count(0), 0);
        }
        String[] wellRulings = {"", "c0", "m9;h1", "c1;m2;h3;c4;m5;h6"};
        for (String text : wellRulings) due.is("5 " + text, Due.street("", text).fault(1), -1);
        Object[][] faultyRulings = {{"c", 1}, {"o", 0}, {"o1", 0}, {"1", 0}, {"cm", 1}, {"c1m", 2}, {"c1;", 3},
            {"c1;o1", 3}, {"c1;m", 4}, {"c1;m2;", 6}, {"c1;;", 3}, {"c12", 2}};
        for (Object[] row : faultyRulings) {
            SoundPaid x = Due.street("", (String) row[0]);
            due.is("5 " + row[0], x.fault(1), (int) row[1]);
            due.is("5 as if empty " + row[0], x.count(1) + x.rate(0), 0);
        }
        due.is("5 below", new SoundPaid().fault(-1), -2);
        due.is("5 above", new SoundPaid().fault(2), -2);
    }

    private static void promise06House() {
        SoundPaid x = Due.street("c9m3;m7c2;h5h9;o4o0", "");
        int[][] rows = {{0, 9, 1, 3}, {1, 7, 0, 2}, {2, 5, 2, 9}, {3, 4, 3, 0}};
        for (int house = 0; house < 4; house++) {
            for (int what = 0; what < 4; what++) due.is("6 house", x.house(house, what), rows[house][what]);
        }
        due.is("6 no such house", x.house(4, 0), -2);
        due.is("6 below", x.house(-1, 0), -2);
        due.is("6 what above", x.house(0, 4), -2);
        due.is("6 what below", x.house(0, -1), -2);
        x.type(0, ';');
        due.is("6 with a fault", x.house(0, 0), -2);
    }

    private static void promise07Rate() {
        SoundPaid x = Due.street("", "c1;m2;c9;m0");
        due.is("7 last counts", x.rate(0), 9);
        due.is("7 last counts, 0 too", x.rate(1), 0);
        due.is("7 without one", x.rate(2), 0);
        due.is("7 below", x.rate(-1), -2);
        due.is("7 above", x.rate(3), -2);
        x.type(1, 'x');
        due.is("7 with a fault", x.rate(0), 0);
    }

    private static void promise08Wall() {
        SoundPaid x = new SoundPaid();
        due.is("8 at first", x.wall(0, 9), 0);
        due.is("8 was", x.wall(0, 4), 9);
        due.is("8 was", x.wall(0, 0), 4);
        due.is("8 last wall", x.wall(6, 1), 0);
        due.is("8 wall above", x.wall(7, 1), -2);
        due.is("8 wall below", x.wall(-1, 1), -2);
        due.is("8 thick above", x.wall(6, 10), -2);
        due.is("8 thick below", x.wall(6, -1), -2);
        due.is("8 refused, unchanged", x.wall(6, 1), 1);
    }

    private static void promise09Suit() {
        SoundPaid x = new SoundPaid();
        int[][] bad = {{-1, 0, 1}, {30, 0, 1}, {0, -1, 1}, {0, 8, 1}, {0, 0, -1}, {0, 0, 8}, {0, 3, 3}};
        for (int[] row : bad) due.is("9 BAD", x.suit(row[0], row[1], row[2]), -2);
        due.is("9 none of them", x.count(4), 0);
        for (int n = 1; n <= 12; n++) due.is("9 how many", x.suit(29, 7, n % 7), n);
        due.is("9 FULL", x.suit(0, 0, 1), -4);
        for (int[] row : bad) due.is("9 BAD ahead of FULL", x.suit(row[0], row[1], row[2]), -2);
        due.is("9 twelve", x.count(4), 12);
    }

    private static void promise10Shut() {
        SoundPaid x = new SoundPaid();
        int[][] bad = {{-1, 0}, {30, 0}, {0, -1}, {0, 8}};
        for (int[] row : bad) due.is("10 BAD", x.shut(row[0], row[1]), -2);
        for (int n = 1; n <= 8; n++) due.is("10 how many", x.shut(29, n - 1), n);
        due.is("10 FULL", x.shut(0, 0), -4);
        for (int[] row : bad) due.is("10 BAD ahead of FULL", x.shut(row[0], row[1]), -2);
        due.is("10 eight", x.count(5), 8);
    }

    private static void promise11Back() {
        SoundPaid x = Due.street("c5o0;o0c0", "c1");
        x.suit(0, 0, 1);
        x.suit(1, 1, 0);
        x.shut(0, 0);
        x.shut(1, 0);
        due.is("11 before", x.balance(2, 0), 5);
        due.is("11 shut", x.back(1), 1);
        due.is("11 the last one was", x.balance(2, 0), 10);
        due.is("11 shut", x.back(1), 0);
        due.is("11 no shut", x.back(1), -3);
        due.is("11 suit", x.back(0), 1);
        due.is("11 the first one stays", x.balance(2, 0), 15);
        due.is("11 suit", x.back(0), 0);
        due.is("11 none stays", x.balance(2, 0), 0);
        due.is("11 no suit", x.back(0), -3);
        due.is("11 below", x.back(-1), -2);
        due.is("11 above", x.back(2), -2);
    }
}
