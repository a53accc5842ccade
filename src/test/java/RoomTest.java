import java.lang.management.ManagementFactory;

/** An object makes its rows once: no later call makes anything; and no call ever throws, whatever it is given. */
public final class RoomTest {
    private static final Due due = new Due();
    private static final int[] ODD = {Integer.MIN_VALUE, -100, -2, -1, 0, 1, 2, 3, 4, 7, 8, 12, 29, 30, 60, 61, 255, 256,
        1000, Integer.MAX_VALUE};

    public static void main(String[] args) {
        SoundPaid[] xs = {new SoundPaid(), Due.street("c9c9;c9c9", "c1"), crowded()};
        for (SoundPaid x : xs) oddCalls(x);
        SoundPaid x = crowded();
        x.digest();
        com.sun.management.ThreadMXBean threads = (com.sun.management.ThreadMXBean) ManagementFactory.getThreadMXBean();
        long self = Thread.currentThread().getId();
        long before = threads.getThreadAllocatedBytes(self);
        long sum = 0;
        for (int call = 0; call < 512; call++) sum += x.digest() + x.sheet(0, 2, 60) + x.write(0, 0) + x.lose(0);
        long made = threads.getThreadAllocatedBytes(self) - before;
        due.is("bytes made by 512 digests, above 10000", made > 10000 ? made : 0, 0);
        due.is("digest told", sum == 0 ? 1 : 0, 0);
        due.end();
    }

    private static SoundPaid crowded() {
        SoundPaid x = Due.street("c9c9;c8c0;c7c1;c9c2;c6c3;c9c4;c9c0;c9c9", "c9");
        for (int n = 1; n <= 7; n++) x.suit(n % 3, n, 0);
        for (int n = 1; n <= 5; n++) x.suit(n % 4, 0, n);
        for (int n = 0; n < 8; n++) x.shut(n, n);
        for (int n = 0; n < 4; n++) x.sheet(n, n % 3, 60);
        return x;
    }

    private static void oddCalls(SoundPaid x) {
        for (int a : ODD) {
            oneNumber(x, a);
            for (int b : ODD) {
                twoNumbers(x, a, b);
                for (int c : ODD) {
                    x.owes(a, b, c);
                    x.build(a, b, c);
                    x.fair(a, b, c);
                    x.get(a, b, c);
                    x.month(a, b, c);
                    for (int d : ODD) x.put(a, b, c, d);
                    for (int d : ODD) x.copy(0, a, 1, b, d);
                    if (a <= 16) x.court(a, b, c, 0);
                }
            }
        }
        for (int a : ODD) {
            for (int b : ODD) {
                for (int c : ODD) {
                    x.suit(a, b, c);
                    x.seen(a, b, c);
                    x.sheet(a, b, c);
                }
                x.type(a, b);
            }
            x.lose(a);
            x.wipe(a);
        }
        due.is("digest after all that", x.digest() == x.digest() ? 1 : 0, 1);
    }

    private static void oneNumber(SoundPaid x, int a) {
        x.fault(a);
        x.rate(a);
        x.back(a);
        x.read(a);
        x.coin(a);
        x.broke(a);
        x.richest(a);
        x.payments(a);
        x.leaked(a);
        x.ask(a);
        x.count(a);
        x.undo(a);
    }

    private static void twoNumbers(SoundPaid x, int a, int b) {
        x.house(a, b);
        x.wall(a, b);
        x.shut(a, b);
        x.through(a, b);
        x.balance(a, b);
        x.rings(a, b);
        x.drop(a, b);
        x.write(a, b);
        x.copy(a, 0, b, 0, 1);
    }
}
