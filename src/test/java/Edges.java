import java.io.IOException;
import java.lang.reflect.Method;
import java.nio.file.Files;
import java.nio.file.Path;
import java.util.Arrays;
import java.util.Comparator;
import java.util.function.IntToLongFunction;

/** What the tests of the document's edges share: a test a sentence, told by the promise's number and its words. */
abstract class Edges {
    static final int NONE = -1, BAD = -2, NOT = -3, FULL = -4;
    static final int NULL = -11, INDEX = -12, CAST = -13, STORE = -14, SIZE = -15;
    static final int ANY = -100000, ANY_BAD = -100002;
    static final int LEAST = Integer.MIN_VALUE, MOST = Integer.MAX_VALUE;
    static final long LONG_BAD = Long.MIN_VALUE + 2;
    static final int BYTES = 0, SHORTS = 1, INTS = 2;
    /** All 39 bytes and all 17. */
    static final String EIGHT_HOUSES = "c0o9;m9h0;h5c5;o1m1;c2c2;m3m3;h4h4;o9o8";
    static final String SIX_RULINGS = "c1;m2;h3;c4;m5;h6";

    private static final Due due = new Due();
    private static String document = "";
    private static String test = "";
    private static int sentences = 0;

    /** Runs each test of a class: its methods whose names begin with promise, each of one sentence. */
    static void run(Class<? extends Edges> tests) throws IOException, ReflectiveOperationException {
        document = Files.readString(Path.of("../shared/DOC.md")).replaceAll("\\s+", " ");
        Method[] methods = tests.getDeclaredMethods();
        Arrays.sort(methods, Comparator.comparing(Method::getName));
        for (Method method : methods) {
            if (!method.getName().startsWith("promise")) continue;
            test = method.getName();
            int told = sentences;
            int asked = due.asked();
            method.invoke(null);
            due.about(test + ": ");
            due.is("sentences told", sentences - told, 1);
            due.is("asks something", due.asked() - asked > 2 ? 1 : 0, 1);
        }
        System.out.println(sentences + " sentences");
        due.end();
    }

    /** The words are the document's own, letter by letter, but for its line breaks. */
    static void sentence(int promise, String words) {
        sentences++;
        due.about("promise " + promise + " \"" + words + "\" (" + test + "): ");
        due.is("is in the document", document.contains(words) ? 1 : 0, 1);
    }

    static void is(String call, long got, long want) {
        due.is(call, got, want);
    }

    /** Numbers are taken from low to high and no others. */
    static void range(String call, int low, int high, long refusal, IntToLongFunction asked) {
        for (int n : new int[] {low - 1, high + 1, LEAST, MOST}) is(call + " with " + n, asked.applyAsLong(n), refusal);
        for (int n : new int[] {low, high}) {
            is(call + " refuses " + n, asked.applyAsLong(n) == refusal ? 1 : 0, 0);
        }
    }

    /** Each suit a row: its day, who sues, who is sued. */
    static SoundPaid street(String houses, String rulings, int[]... suits) {
        SoundPaid x = Due.street(houses, rulings);
        for (int[] row : suits) x.suit(row[0], row[1], row[2]);
        return x;
    }

    static void fill(SoundPaid x, int s, int form, int... items) {
        x.sheet(s, form, items.length);
        for (int i = 0; i < items.length; i++) x.put(s, form, i, items[i]);
    }

    static void items(SoundPaid x, int s, int form, int... items) {
        for (int i = 0; i < items.length; i++) is("get(" + s + ", " + form + ", " + i + ")", x.get(s, form, i), items[i]);
    }
}
