/** Compares answers with those that are due, and ends a test. */
final class Due {
    private static final int MOST_SHOWN = 40;

    private int wrong = 0;
    private int asked = 0;
    private int shown = 0;
    private String about = "";

    /** What the next answers are about stands ahead of each that is wrong. */
    void about(String words) {
        about = words;
        shown = 0;
    }

    void is(String call, long got, long want) {
        asked++;
        if (got == want) return;
        wrong++;
        shown++;
        if (shown <= MOST_SHOWN) System.out.println(about + call + " answered " + got + ", due is " + want);
    }

    int asked() {
        return asked;
    }

    void end() {
        System.out.println(asked + " answers, " + wrong + " not as due");
        if (wrong != 0 || asked == 0) System.exit(1);
    }

    static void type(SoundPaid x, int text, String signs) {
        for (char sign : signs.toCharArray()) x.type(text, sign);
    }

    static SoundPaid street(String houses, String rulings) {
        SoundPaid x = new SoundPaid();
        type(x, 0, houses);
        type(x, 1, rulings);
        return x;
    }
}
