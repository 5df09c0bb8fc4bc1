import java.util.Set;
import java.util.TreeSet;
import java.util.function.Supplier;
import java.util.function.ToIntFunction;

/** What the tests of the edges share: the sentence that is tested now, scenes, and the look at all of an object. */
final class Edges {
    static final int NONE = -1, UNKNOWN = -1000000001, OUTSIDE = -1000000002, NOT = -1000000003, FULL = -1000000004;
    static final int LEAST = Integer.MIN_VALUE, MOST = Integer.MAX_VALUE;
    /** Four streets: 0 and 1 swap words 0 and 1; from 1 to 2 words move on by 1; 0 and 2 turn 3 to 2; 3 and 2 are plain. */
    static final String SQUARE = "t4;s0 1;s1 2;s2 0;s3 0;i0 1 0 0 1 1;i1 2 2 1 0 2;i0 2 1 3 2 9;i3 2 3 0 0 1;";
    static final String SMALL = "t2;s0 1;s1 0;i0 1 3 0 1 1;";
    static final String SEVEN = "t2;s0 1;s0 1;s0 1;s0 1;s0 1;s0 1;s0 1;";
    /** Seven streets one behind the other, at the highest price. */
    static final String CHAIN = SEVEN + "i0 1 3 0 0 99;i1 2 3 0 0 99;i2 3 3 0 0 99;i3 4 3 0 0 99;i4 5 3 0 0 99;i5 6 3 0 0 99;";
    /** Ten corners: street 5 with 0 to 4 for nothing, street 6 with 0 to 4 for 99. */
    static final String TEN = SEVEN + "i5 0 3 0 0 0;i5 1 3 0 0 0;i5 2 3 0 0 0;i5 3 3 0 0 0;i5 4 3 0 0 0;"
        + "i6 0 3 0 0 99;i6 1 3 0 0 99;i6 2 3 0 0 99;i6 3 3 0 0 99;i6 4 3 0 0 99;";
    private static final Set<Integer> promises = new TreeSet<>();
    private static int checked = 0;
    private static int sentences = 0;
    private static int wrong = 0;
    private static int promise = 0;
    private static String words = "";

    private Edges() { }

    /** Names the promise and the sentence, or the part of one, that the checks behind it belong to. */
    static void sentence(int number, String told) {
        promise = number;
        words = told;
        sentences++;
        promises.add(number);
    }

    static void due(String call, int got, int want) {
        checked++;
        if (got != want) fail(call + " answered " + got + ", due is " + want);
    }

    static void alike(String call, String got, String want) {
        checked++;
        if (!got.equals(want)) fail(call + " left\n  " + got + "\n  due is\n  " + want);
    }

    private static void fail(String what) {
        wrong++;
        System.out.println("promise " + promise + ", '" + words + "': " + what);
    }

    /** Does the call on one of two like objects: it is refused as told, and the two stay alike. */
    static void refused(String call, Supplier<StreetTongues> scene, ToIntFunction<StreetTongues> act, int want) {
        StreetTongues x = scene.get();
        due(call, act.applyAsInt(x), want);
        alike(call, all(x), all(scene.get()));
    }

    /** Ends the test: each of the promises must have had a sentence. */
    static void finish(int first, int last) {
        for (int number = first; number <= last; number++) {
            if (!promises.contains(number)) fail("promise " + number + " has no sentence");
        }
        System.out.println(wrong == 0 ? checked + " answers by " + sentences + " sentences are as due"
            : wrong + " of " + checked + " answers are not as due");
        if (wrong != 0) System.exit(1);
    }

    static StreetTongues tell(StreetTongues x, String text) {
        for (char c : text.toCharArray()) x.feed(c);
        return x;
    }

    static StreetTongues townOf(String text) {
        StreetTongues x = tell(new StreetTongues(), text);
        int streets = x.town();
        if (streets < 0) fail("town() of '" + text + "' answered " + streets);
        return x;
    }

    static String blanks(int n) { return " ".repeat(n); }

    /** Something of everything: images, steps to undo, feuds, a shut and a mended corner, a text begun. */
    static StreetTongues busy() {
        StreetTongues x = settled();
        return tell(x, "t2");
    }

    /** As busy, without a text. */
    static StreetTongues settled() {
        StreetTongues x = townOf(SQUARE);
        x.seed(77);
        x.say(0, false, 1);
        x.keep(1);
        x.seed(78);
        x.say(3, false, 1);
        x.keep(0);
        x.seed(79);
        x.say(0, true, 1);
        x.send(3, 1, 12);
        x.shut(2, true);
        x.mend(0);
        x.quarrel(2, 3, true);
        x.see(0, 1);
        x.write(1, 2);
        return x;
    }

    /** The log, what can be undone, what is seen and the book have all they can have. */
    static StreetTongues full() {
        StreetTongues x = townOf(SMALL);
        x.keep(1);
        for (int k = 0; k < 20; k++) x.say(0, k % 2 == 1, k % 3 == 0 ? 12 : 1 + k % 2);
        for (int k = 0; k < 6; k++) x.see(k % 2, k % 2);
        for (int k = 0; k < 15; k++) x.write(k % 2, k % 3);
        return x;
    }

    static StreetTongues noTown() { return new StreetTongues(); }

    /** All that can be found out of an object; it is used up by that, within its 512 calls. */
    static String all(StreetTongues x) {
        StringBuilder s = new StringBuilder();
        for (int what = 0; what < 14; what++) s.append(x.told(what)).append(' ');
        for (int a = 0; a < x.told(1); a++) for (int what = 0; what < 4; what++) s.append(x.street(a, what)).append(' ');
        for (int i = 0; i < x.told(2); i++) for (int what = 0; what < 7; what++) s.append(x.corner(i, what)).append(' ');
        for (int i = 0; i < x.told(10); i++) for (int what = 0; what < 4; what++) s.append(x.logged(i, what)).append(' ');
        s.append("| ").append(x.slips(0)).append(' ').append(x.slips(1)).append(' ').append(x.tryNext()).append(' ').append(x.judge());
        s.append(" | ").append(x.fault()).append(' ').append(seedOf(x));
        for (int k = x.told(13); k > 0; k--) s.append(" | undo ").append(x.undo()).append(' ').append(affairs(x));
        for (int i = 0; i < 2; i++) s.append(" | image ").append(x.goBack(i)).append(' ').append(affairs(x)).append(seedOf(x));
        return s.append(" | text ").append(x.town()).append(' ').append(x.fault()).toString();
    }

    /** What section 2 changes, in short. */
    static String affairs(StreetTongues x) {
        StringBuilder s = new StringBuilder();
        for (int what = 4; what < 8; what++) s.append(x.told(what)).append(' ');
        s.append(x.told(10)).append(' ');
        for (int a = 0; x.street(a, 2) >= 0; a++) s.append(x.street(a, 2)).append(' ');
        for (int i = 0; x.corner(i, 2) >= 0; i++) s.append(x.corner(i, 2)).append(' ');
        return s.toString();
    }

    static int seedOf(StreetTongues x) {
        int seed = x.seed(0);
        x.seed(seed);
        return seed;
    }
}
