/** Compares answers with those that are due, and ends a test. */
final class Due {
    private int wrong = 0;
    private int asked = 0;

    void is(String call, long got, long want) {
        asked++;
        if (got == want) return;
        wrong++;
        if (wrong <= 40) System.out.println(call + " answered " + got + ", due is " + want);
    }

    void end() {
        System.out.println(asked + " answers, " + wrong + " not as due");
        if (wrong != 0 || asked == 0) System.exit(1);
    }

    static void type(SoundPaid x, int text, String signs) {
        for (char sign : signs.toCharArray()) x.type(text, sign);
    }

    static SoundPaid street(String houses, String rulings) {
        SoundPaid x = new SoundPaid();
        type(x, 0, houses);
        type(x, 1, rulings);
        return x;
    }
}
