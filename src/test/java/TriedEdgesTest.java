import java.util.function.Supplier;
import java.util.function.ToIntFunction;

/** The edges of promises 16 to 26: what is tried, by which nothing changes. */
public final class TriedEdgesTest {
    private static final int NONE = Edges.NONE, UNKNOWN = Edges.UNKNOWN, OUTSIDE = Edges.OUTSIDE, NOT = Edges.NOT;
    private static final int LEAST = Edges.LEAST, MOST = Edges.MOST;
    /** What no street, corner or word of the square is: it has four of each. */
    private static final int[] BAD = {-1, 4, 7, 8, 10, LEAST, MOST};
    private static final int[] BAD_WHAT = {-1, 2, LEAST, MOST};
    private static final String EIGHT = "t8;s0 1;s0 1;s0 1;s0 1;s0 1;s0 1;s0 1;";
    /** A ring of seven at the highest price; only from 0 to 1 do words move on. */
    private static final String ROUND = EIGHT
        + "i0 1 2 1 0 99;i1 2 3 0 0 99;i2 3 3 0 0 99;i3 4 3 0 0 99;i4 5 3 0 0 99;i5 6 3 0 0 99;i6 0 3 0 0 99;";
    /** Each two of five streets have a corner; only the first changes words. */
    private static final String FIVE = "t2;s0 1;s0 1;s0 1;s0 1;s0 1;i0 1 2 1 0 1;i0 2 3 0 0 1;i0 3 3 0 0 1;i0 4 3 0 0 1;i1 2 3 0 0 1;"
        + "i1 3 3 0 0 1;i1 4 3 0 0 1;i2 3 3 0 0 1;i2 4 3 0 0 1;i3 4 3 0 0 1;";
    /** Word by word all become the next, six times: 0 to 6 all come as 6. */
    private static final String FUNNEL = EIGHT
        + "i0 1 1 0 1 0;i1 2 1 1 2 0;i2 3 1 2 3 0;i3 4 1 3 4 0;i4 5 1 4 5 0;i5 6 1 5 6 0;";
    private static final String STAR = Edges.SEVEN
        + "i0 1 3 0 0 0;i0 2 3 0 0 0;i0 3 3 0 0 0;i0 4 3 0 0 0;i0 5 3 0 0 0;i0 6 3 0 0 0;";

    public static void main(String[] args) {
        over();
        becomes();
        way();
        throughRefused();
        throughFar();
        code();
        originRefused();
        origin();
        ring();
        moreRefused();
        more();
        cutRefused();
        cut();
        walk();
        holds();
        Edges.finish(16, 26);
    }

    private static void due(String call, int got, int want) { Edges.due(call, got, want); }

    private static void sentence(int promise, String words) { Edges.sentence(promise, words); }

    private static void refused(String call, Supplier<StreetTongues> scene, ToIntFunction<StreetTongues> act, int want) {
        Edges.refused(call, scene, act, want);
    }

    /** What is tried changes nothing, even where it is answered. */
    private static void tried(String call, ToIntFunction<StreetTongues> act, int want) {
        Edges.refused(call, Edges::busy, act, want);
    }

    /** Busy, and street 3 has no way. */
    private static StreetTongues lone() {
        StreetTongues x = Edges.busy();
        x.shut(3, true);
        return x;
    }

    private static void over() {
        sentence(16, "UNKNOWN");
        for (int bad : BAD) {
            refused("over(" + bad + ", false, 0)", Edges::busy, x -> x.over(bad, false, 0), UNKNOWN);
            refused("over(0, true, " + bad + ")", Edges::busy, x -> x.over(0, true, bad), UNKNOWN);
            refused("over(" + bad + ", true, " + bad + ")", Edges::busy, x -> x.over(bad, true, bad), UNKNOWN);
        }
        StreetTongues ten = Edges.townOf(Edges.TEN);
        due("over(9, false, 1), the tenth", ten.over(9, false, 1), 1);
        due("over(10, false, 1)", ten.over(10, false, 1), UNKNOWN);
        due("over(9, false, 2)", ten.over(9, false, 2), UNKNOWN);
        sentence(16, "from A (back false), or from B: around N");
        StreetTongues x = Edges.townOf("t8;s0 1;s0 1;s0 1;s0 1;i0 1 2 7 0 0;i1 2 2 1 0 0;i2 3 2 0 0 0;");
        for (int w = 0; w < 8; w++) {
            due("over(0, false, " + w + ")", x.over(0, false, w), new int[] {7, 0, 1, 2, 3, 4, 5, 6}[w]);
            due("over(0, true, " + w + ")", x.over(0, true, w), new int[] {1, 2, 3, 4, 5, 6, 7, 0}[w]);
            due("over(1, false, " + w + ")", x.over(1, false, w), new int[] {1, 2, 3, 4, 5, 6, 7, 0}[w]);
            due("over(1, true, " + w + ")", x.over(1, true, w), new int[] {7, 0, 1, 2, 3, 4, 5, 6}[w]);
            due("over(2, false, " + w + ")", x.over(2, false, w), w);
            due("over(2, true, " + w + ")", x.over(2, true, w), w);
        }
        due("over(0, false, 8)", x.over(0, false, 8), UNKNOWN);
        sentence(16, "at a SHUT, at a MENDED CORNER");
        tried("over(2, false, 3), SHUT", y -> y.over(2, false, 3), 2);
        tried("over(0, false, 1), MENDED", y -> y.over(0, false, 1), 1);
    }

    private static void becomes() {
        sentence(17, "UNKNOWN");
        for (int bad : BAD) {
            refused("becomes(" + bad + ", 0, 0)", Edges::busy, x -> x.becomes(bad, 0, 0), UNKNOWN);
            refused("becomes(0, " + bad + ", 0)", Edges::busy, x -> x.becomes(0, bad, 0), UNKNOWN);
            refused("becomes(0, 1, " + bad + ")", Edges::busy, x -> x.becomes(0, 1, bad), UNKNOWN);
        }
        sentence(17, "UNKNOWN: one twice, where two are asked");
        for (int a = 0; a < 4; a++) {
            int same = a;
            refused("becomes(" + a + ", " + a + ", 0)", Edges::busy, x -> x.becomes(same, same, 0), UNKNOWN);
        }
        sentence(17, "NONE");
        refused("becomes(3, 0, 0)", TriedEdgesTest::lone, x -> x.becomes(3, 0, 0), NONE);
        refused("becomes(0, 3, 3)", TriedEdgesTest::lone, x -> x.becomes(0, 3, 3), NONE);
        due("becomes(0, 1, 0), no CORNER", Edges.townOf(Edges.SEVEN).becomes(0, 1, 0), NONE);
        sentence(17, "UNKNOWN, where there is no WAY");
        refused("becomes(3, 0, 4)", TriedEdgesTest::lone, x -> x.becomes(3, 0, 4), UNKNOWN);
        sentence(17, "what a WORD becomes by the WAY: the longest, the last WORD");
        StreetTongues x = Edges.townOf(FUNNEL);
        due("becomes(0, 6, 0)", x.becomes(0, 6, 0), 6);
        due("becomes(0, 6, 7)", x.becomes(0, 6, 7), 7);
        due("becomes(6, 0, 0)", x.becomes(6, 0, 0), 1);
        due("becomes(6, 0, 5)", x.becomes(6, 0, 5), 6);
        tried("becomes(3, 0, 0)", y -> y.becomes(3, 0, 0), 3);
    }

    private static void way() {
        sentence(18, "UNKNOWN");
        for (int bad : BAD) {
            refused("way(" + bad + ", 0, 0)", Edges::busy, x -> x.way(bad, 0, 0), UNKNOWN);
            refused("way(0, " + bad + ", 0)", Edges::busy, x -> x.way(0, bad, 0), UNKNOWN);
        }
        sentence(18, "UNKNOWN: one twice, where two are asked");
        refused("way(0, 0, 0)", Edges::busy, x -> x.way(0, 0, 0), UNKNOWN);
        refused("way(3, 3, 1)", Edges::busy, x -> x.way(3, 3, 1), UNKNOWN);
        sentence(18, "OUTSIDE");
        for (int what : new int[] {-1, 3, LEAST, MOST}) {
            refused("way(0, 1, " + what + ")", Edges::busy, x -> x.way(0, 1, what), OUTSIDE);
            refused("way(0, 3, " + what + "), no WAY", TriedEdgesTest::lone, x -> x.way(0, 3, what), OUTSIDE);
        }
        sentence(18, "UNKNOWN ahead of OUTSIDE");
        refused("way(0, 4, 3)", Edges::busy, x -> x.way(0, 4, 3), UNKNOWN);
        refused("way(0, 0, -1)", Edges::busy, x -> x.way(0, 0, -1), UNKNOWN);
        sentence(18, "NONE");
        for (int what = 0; what < 3; what++) {
            int asked = what;
            refused("way(0, 3, " + what + ")", TriedEdgesTest::lone, x -> x.way(0, 3, asked), NONE);
            refused("way(3, 0, " + what + ")", TriedEdgesTest::lone, x -> x.way(3, 0, asked), NONE);
        }
        sentence(18, "0 PENCE, 1 how many CORNERS, 2 the first CORNER: the most and the least");
        StreetTongues x = Edges.townOf(Edges.CHAIN);
        int[][] due = {{594, 6, 0}, {594, 6, 5}, {99, 1, 0}, {99, 1, 5}};
        for (int what = 0; what < 3; what++) {
            due("way(0, 6, " + what + ")", x.way(0, 6, what), due[0][what]);
            due("way(6, 0, " + what + ")", x.way(6, 0, what), due[1][what]);
            due("way(0, 1, " + what + ")", x.way(0, 1, what), due[2][what]);
            due("way(6, 5, " + what + ")", x.way(6, 5, what), due[3][what]);
        }
        StreetTongues free = Edges.townOf(FUNNEL);
        due("way(0, 6, 0), PRICE 0", free.way(0, 6, 0), 0);
        due("way(0, 6, 1), PRICE 0", free.way(0, 6, 1), 6);
        StreetTongues ten = Edges.townOf(Edges.TEN);
        due("way(6, 4, 2), of like PENCE the fewest", ten.way(6, 4, 2), 9);
        due("way(6, 4, 0)", ten.way(6, 4, 0), 99);
        due("way(6, 4, 1), of like PENCE the fewest", ten.way(6, 4, 1), 1);
        tried("way(3, 0, 2)", y -> y.way(3, 0, 2), 3);
    }

    private static void throughRefused() {
        sentence(19, "UNKNOWN");
        for (int bad : BAD) {
            refused("through(" + bad + ", 0, 0, 0, 0)", Edges::busy, x -> x.through(bad, 0, 0, 0, 0), UNKNOWN);
            refused("through(0, " + bad + ", 0, 0, 0)", Edges::busy, x -> x.through(0, bad, 0, 0, 0), UNKNOWN);
            refused("through(0, 0, " + bad + ", 0, 1)", Edges::busy, x -> x.through(0, 0, bad, 0, 1), UNKNOWN);
            refused("through(0, 0, 0, " + bad + ", 1)", Edges::busy, x -> x.through(0, 0, 0, bad, 1), UNKNOWN);
        }
        sentence(19, "OUTSIDE");
        for (int what : BAD_WHAT) {
            refused("through(0, 0, 1, 0, " + what + ")", Edges::busy, x -> x.through(0, 0, 1, 0, what), OUTSIDE);
            refused("through(3, 0, 0, 0, " + what + "), none", TriedEdgesTest::lone, x -> x.through(3, 0, 0, 0, what), OUTSIDE);
        }
        sentence(19, "UNKNOWN ahead of OUTSIDE");
        refused("through(4, 0, 0, 0, 2)", Edges::busy, x -> x.through(4, 0, 0, 0, 2), UNKNOWN);
        refused("through(0, 4, 0, 0, 2)", Edges::busy, x -> x.through(0, 4, 0, 0, 2), UNKNOWN);
        refused("through(0, 0, 4, 0, 2)", Edges::busy, x -> x.through(0, 0, 4, 0, 2), UNKNOWN);
        refused("through(0, 0, 0, 4, -1)", Edges::busy, x -> x.through(0, 0, 0, 4, -1), UNKNOWN);
        sentence(19, "NONE");
        for (int what = 0; what < 2; what++) {
            int asked = what;
            refused("through(3, 0, 0, 0, " + what + ")", TriedEdgesTest::lone, x -> x.through(3, 0, 0, 0, asked), NONE);
            refused("through(0, 0, 3, 0, " + what + ")", TriedEdgesTest::lone, x -> x.through(0, 0, 3, 0, asked), NONE);
            refused("through(3, 0, 3, 1, " + what + ")", TriedEdgesTest::lone, x -> x.through(3, 0, 3, 1, asked), NONE);
        }
        StreetTongues turn = Edges.townOf("t2;s0 1;s0 1;i0 1 1 0 1 5;");
        due("through(0, 0, 1, 0, 0), it cannot stay", turn.through(0, 0, 1, 0, 0), NONE);
        due("through(0, 0, 1, 1, 0)", turn.through(0, 0, 1, 1, 0), 1);
    }

    private static void throughFar() {
        sentence(19, "comes to a STREET (perhaps the same): none gone by");
        for (int w = 0; w < 4; w++) {
            int word = w;
            refused("through(3, " + w + ", 3, " + w + ", 0)", TriedEdgesTest::lone, x -> x.through(3, word, 3, word, 0), 0);
            refused("through(3, " + w + ", 3, " + w + ", 1)", TriedEdgesTest::lone, x -> x.through(3, word, 3, word, 1), 0);
        }
        sentence(19, "some perhaps again: the fewest, the least PENCE");
        StreetTongues x = Edges.townOf(ROUND);
        due("through(0, 0, 0, 4, 0), four times around", x.through(0, 0, 0, 4, 0), 28);
        due("through(0, 0, 0, 4, 1)", x.through(0, 0, 0, 4, 1), 2772);
        due("through(0, 0, 3, 4, 0), three times, and three", x.through(0, 0, 3, 4, 0), 24);
        due("through(0, 0, 3, 4, 1)", x.through(0, 0, 3, 4, 1), 2376);
        due("through(0, 0, 0, 7, 0), the other way round", x.through(0, 0, 0, 7, 0), 7);
        due("through(6, 7, 6, 0, 0), around N", x.through(6, 7, 6, 0, 0), 7);
        sentence(19, "SHUT ones are not gone by");
        x.shut(3, true);
        due("through(0, 0, 0, 4, 0)", x.through(0, 0, 0, 4, 0), NONE);
        due("through(0, 0, 0, 4, 1)", x.through(0, 0, 0, 4, 1), NONE);
        due("through(0, 0, 3, 1, 0)", x.through(0, 0, 3, 1, 0), 3);
        due("through(0, 0, 3, 0, 0)", x.through(0, 0, 3, 0, 0), NONE);
        x.shut(3, false);
        due("through(0, 0, 3, 0, 0), OPEN again", x.through(0, 0, 3, 0, 0), 4);
        sentence(19, "the least PENCE that it can cost (perhaps by more CORNERS)");
        StreetTongues six = Edges.townOf(EIGHT + "i0 1 3 0 0 0;i1 2 3 0 0 0;i2 3 3 0 0 0;i3 4 3 0 0 0;i4 5 3 0 0 0;i5 6 3 0 0 0;i0 6 3 0 0 99;");
        due("through(0, 7, 6, 7, 0)", six.through(0, 7, 6, 7, 0), 1);
        due("through(0, 7, 6, 7, 1)", six.through(0, 7, 6, 7, 1), 0);
        six.shut(2, true);
        due("through(0, 7, 6, 7, 1)", six.through(0, 7, 6, 7, 1), 99);
    }

    private static void code() {
        sentence(20, "UNKNOWN");
        for (int bad : BAD) {
            refused("code(" + bad + ", 0, 0)", Edges::busy, x -> x.code(bad, 0, 0), UNKNOWN);
            refused("code(0, " + bad + ", 0)", Edges::busy, x -> x.code(0, bad, 0), UNKNOWN);
            refused("code(0, 1, " + bad + ")", Edges::busy, x -> x.code(0, 1, bad), UNKNOWN);
        }
        sentence(20, "UNKNOWN: one twice, where two are asked");
        refused("code(0, 0, 0)", Edges::busy, x -> x.code(0, 0, 0), UNKNOWN);
        refused("code(3, 3, 0)", Edges::busy, x -> x.code(3, 3, 0), UNKNOWN);
        sentence(20, "no WAY: 0");
        for (int v = 0; v < 4; v++) {
            int word = v;
            refused("code(3, 0, " + v + ")", TriedEdgesTest::lone, x -> x.code(3, 0, word), 0);
        }
        refused("code(3, 0, 4), no WAY", TriedEdgesTest::lone, x -> x.code(3, 0, 4), UNKNOWN);
        sentence(20, "WORDS (a SET) which, SENT, come as a told WORD: none, one, nearly all, all");
        StreetTongues x = Edges.townOf(FUNNEL);
        for (int v = 0; v < 8; v++) due("code(0, 6, " + v + ")", x.code(0, 6, v), v < 6 ? 0 : v == 6 ? 127 : 128);
        due("code(0, 6, 8)", x.code(0, 6, 8), UNKNOWN);
        StreetTongues on = Edges.townOf("t4;s0 1;s0 1;i0 1 2 1 0 0;");
        for (int v = 0; v < 4; v++) due("code(0, 1, " + v + "), around N", on.code(0, 1, v), v == 0 ? 8 : 1 << v - 1);
        for (int v = 0; v < 4; v++) due("code(1, 0, " + v + "), around N", on.code(1, 0, v), v == 3 ? 1 : 2 << v);
        StreetTongues two = Edges.townOf("t2;s0 1;s0 1;i0 1 1 0 1 0;");
        due("code(0, 1, 1)", two.code(0, 1, 1), 3);
        due("code(1, 0, 0)", two.code(1, 0, 0), 0);
    }

    private static void originRefused() {
        sentence(21, "UNKNOWN");
        for (int bad : BAD) {
            refused("origin(" + bad + ", 0, 1, -1)", Edges::busy, x -> x.origin(bad, 0, 1, NONE), UNKNOWN);
            refused("origin(0, " + bad + ", 1, -1)", Edges::busy, x -> x.origin(0, bad, 1, NONE), UNKNOWN);
            if (bad != NONE) refused("origin(0, 0, 1, " + bad + ")", Edges::busy, x -> x.origin(0, 0, 1, bad), UNKNOWN);
        }
        refused("origin(0, 0, 1, -2)", Edges::busy, x -> x.origin(0, 0, 1, -2), UNKNOWN);
        sentence(21, "by n CORNERS (0 .. 9): OUTSIDE");
        for (int n : new int[] {-1, 10, LEAST, MOST}) {
            refused("origin(0, 0, " + n + ", -1)", Edges::busy, x -> x.origin(0, 0, n, NONE), OUTSIDE);
            refused("origin(0, 0, " + n + ", 3)", Edges::busy, x -> x.origin(0, 0, n, 3), OUTSIDE);
        }
        sentence(21, "UNKNOWN ahead of OUTSIDE");
        refused("origin(4, 0, 10, -1)", Edges::busy, x -> x.origin(4, 0, 10, NONE), UNKNOWN);
        refused("origin(0, 4, -1, -1)", Edges::busy, x -> x.origin(0, 4, -1, NONE), UNKNOWN);
        refused("origin(0, 0, 10, 4)", Edges::busy, x -> x.origin(0, 0, 10, 4), UNKNOWN);
        refused("origin(0, 0, -1, -2)", Edges::busy, x -> x.origin(0, 0, -1, -2), UNKNOWN);
    }

    private static void origin() {
        sentence(21, "n 0: where it is");
        StreetTongues x = Edges.townOf(ROUND);
        due("origin(6, 7, 0, -1)", x.origin(6, 7, 0, NONE), 1);
        due("origin(6, 7, 0, 6)", x.origin(6, 7, 0, 6), 128);
        for (int a = 0; a < 6; a++) due("origin(6, 7, 0, " + a + ")", x.origin(6, 7, 0, a), 0);
        refused("origin(3, 2, 0, -1), no WAY", TriedEdgesTest::lone, y -> y.origin(3, 2, 0, NONE), 1);
        refused("origin(3, 2, 0, 3), no WAY", TriedEdgesTest::lone, y -> y.origin(3, 2, 0, 3), 4);
        sentence(21, "n 1 to 9");
        StreetTongues two = Edges.townOf(Edges.SMALL);
        for (int n = 0; n < 10; n++) {
            due("origin(0, 1, " + n + ", -1)", two.origin(0, 1, n, NONE), 1);
            due("origin(0, 1, " + n + ", 0)", two.origin(0, 1, n, 0), n % 2 == 0 ? 2 : 0);
            due("origin(0, 1, " + n + ", 1)", two.origin(0, 1, n, 1), n % 2 == 0 ? 0 : 2);
        }
        due("origin(0, 0, 7, 0), once around, either way", x.origin(0, 0, 7, 0), 130);
        due("origin(0, 0, 9, 0), once around, there and back", x.origin(0, 0, 9, 0), 130);
        due("origin(0, 0, 8, 0), there and back", x.origin(0, 0, 8, 0), 1);
        due("origin(0, 0, 8, 1), back around and one, or forth with one back", x.origin(0, 0, 8, 1), 5);
        sentence(21, "pairs: none, all");
        StreetTongues turn = Edges.townOf("t2;s0 1;s0 1;i0 1 1 0 1 5;");
        due("origin(1, 0, 1, -1), nothing comes so", turn.origin(1, 0, 1, NONE), 0);
        due("origin(1, 0, 1, 0)", turn.origin(1, 0, 1, 0), 0);
        due("origin(1, 1, 1, -1), both come so", turn.origin(1, 1, 1, NONE), 2);
        due("origin(1, 1, 9, 0)", turn.origin(1, 1, 9, 0), 3);
        refused("origin(3, 2, 1, -1), no WAY", TriedEdgesTest::lone, y -> y.origin(3, 2, 1, NONE), 0);
        StreetTongues five = Edges.townOf(FIVE);
        due("origin(0, 0, 9, -1)", five.origin(0, 0, 9, NONE), 10);
        for (int a = 0; a < 5; a++) due("origin(0, 0, 9, " + a + ")", five.origin(0, 0, 9, a), 3);
    }

    private static void ring() {
        sentence(22, "UNKNOWN");
        for (int bad : BAD) {
            refused("ring(" + bad + ", 0, 0)", Edges::busy, x -> x.ring(bad, 0, 0), UNKNOWN);
            refused("ring(0, " + bad + ", 0)", Edges::busy, x -> x.ring(0, bad, 0), UNKNOWN);
            refused("ring(0, 0, " + bad + ")", Edges::busy, x -> x.ring(0, 0, bad), UNKNOWN);
        }
        sentence(22, "the fewest CORNERS (1 on): staying is none");
        due("ring(0, 0, 0), one STREET", Edges.townOf("t2;s0 1;").ring(0, 0, 0), NONE);
        due("ring(0, 0, 0), no CORNER", Edges.townOf(Edges.SEVEN).ring(0, 0, 0), NONE);
        refused("ring(3, 0, 0), SHUT", TriedEdgesTest::lone, x -> x.ring(3, 0, 0), NONE);
        tried("ring(3, 0, 0), there and back", x -> x.ring(3, 0, 0), 2);
        sentence(22, "comes back there as another told WORD (or as itself)");
        StreetTongues x = Edges.townOf(ROUND);
        int[] around = {2, 7, 14, 21, 28, 21, 14, 7};
        for (int v = 0; v < 8; v++) {
            due("ring(0, 0, " + v + ")", x.ring(0, 0, v), around[v]);
            due("ring(6, 7, " + (v + 7) % 8 + ")", x.ring(6, 7, (v + 7) % 8), around[v]);
        }
        sentence(22, "NONE");
        x.shut(6, true);
        for (int v = 0; v < 8; v++) due("ring(0, 0, " + v + ")", x.ring(0, 0, v), v == 0 ? 2 : NONE);
        StreetTongues turn = Edges.townOf("t2;s0 1;s0 1;i0 1 1 0 1 5;");
        due("ring(0, 0, 0), it never comes back so", turn.ring(0, 0, 0), NONE);
        due("ring(0, 0, 1)", turn.ring(0, 0, 1), 2);
    }

    private static void moreRefused() {
        sentence(23, "OUTSIDE");
        for (int what : BAD_WHAT) refused("more(" + what + ")", Edges::busy, x -> x.more(what), OUTSIDE);
        sentence(23, "NOT: no TOWN");
        refused("more(0)", Edges::noTown, x -> x.more(0), NOT);
        refused("more(1)", Edges::noTown, x -> x.more(1), NOT);
        sentence(23, "OUTSIDE ahead of NOT");
        refused("more(2)", Edges::noTown, x -> x.more(2), OUTSIDE);
        refused("more(-1)", Edges::noTown, x -> x.more(-1), OUTSIDE);
        sentence(23, "NONE: all have one");
        for (String full : new String[] {"t2;", "t2;s0 1;", Edges.SMALL, FIVE}) {
            StreetTongues x = Edges.townOf(full);
            due("more(0) of " + full, x.more(0), NONE);
            due("more(1) of " + full, x.more(1), NONE);
        }
        sentence(23, "the two STREETS without a CORNER: a SHUT one is one");
        StreetTongues shut = Edges.townOf(FIVE);
        for (int i = 0; i < 10; i++) shut.shut(i, true);
        due("more(0)", shut.more(0), NONE);
        due("more(1)", shut.more(1), NONE);
    }

    private static void more() {
        sentence(23, "100 for each that has none");
        StreetTongues two = Edges.townOf("t2;s0 1;s0 1;");
        due("more(0), two", two.more(0), 1);
        due("more(1), two", two.more(1), 0);
        StreetTongues seven = Edges.townOf(Edges.SEVEN);
        due("more(0), seven", seven.more(0), 1);
        due("more(1), seven", seven.more(1), 4000);
        sentence(23, "10 times the lesser and the other; of like ones the least");
        StreetTongues ten = Edges.townOf(Edges.TEN);
        due("more(0), the greatest", ten.more(0), 56);
        due("more(1)", ten.more(1), 0);
        StreetTongues pairs = Edges.townOf("t2;s0 1;s0 1;s0 1;s0 1;i1 0 3 0 0 0;i3 2 3 0 0 0;");
        due("more(0), of four", pairs.more(0), 2);
        due("more(1)", pairs.more(1), 0);
        StreetTongues last = Edges.townOf("t2;s0 1;s0 1;s0 1;s0 1;i0 1 3 0 0 9;i0 2 3 0 0 9;i0 3 3 0 0 9;i1 2 3 0 0 9;i1 3 3 0 0 9;");
        due("more(0), the only ones", last.more(0), 23);
        due("more(1)", last.more(1), 90);
        sentence(23, "of PRICE 0; PENCE of all WAYS; SHUT ones are not gone by");
        StreetTongues three = Edges.townOf("t2;s0 1;s0 1;s0 1;i0 1 3 0 0 99;i1 2 3 0 0 99;");
        due("more(0)", three.more(0), 2);
        due("more(1)", three.more(1), 396);
        three.shut(0, true);
        due("more(1), 99 for two and 100 for none", three.more(1), 396);
        three.shut(1, true);
        due("more(1), 100 for four", three.more(1), 400);
        due("more(0)", three.more(0), 2);
        StreetTongues hub = Edges.townOf("t2;s0 1;s0 1;s0 1;i0 1 3 0 0 7;i2 0 3 0 0 4;");
        due("more(0), by way of the first STREET", hub.more(0), 12);
        due("more(1)", hub.more(1), 16);
        StreetTongues star = Edges.townOf("t2;s0 1;s0 1;s0 1;s0 1;i0 1 3 0 0 1;i2 0 3 0 0 1;i0 3 3 0 0 1;");
        due("more(0), by way of the first STREET", star.more(0), 12);
        due("more(1)", star.more(1), 14);
        tried("more(0)", x -> x.more(0), 3);
    }

    private static void cutRefused() {
        sentence(24, "UNKNOWN");
        for (int bad : BAD) {
            refused("cut(" + bad + ", 0, 0)", Edges::busy, x -> x.cut(bad, 0, 0), UNKNOWN);
            refused("cut(0, " + bad + ", 1)", Edges::busy, x -> x.cut(0, bad, 1), UNKNOWN);
        }
        sentence(24, "UNKNOWN: one twice, where two are asked");
        refused("cut(0, 0, 0)", Edges::busy, x -> x.cut(0, 0, 0), UNKNOWN);
        refused("cut(3, 3, 1)", Edges::busy, x -> x.cut(3, 3, 1), UNKNOWN);
        sentence(24, "OUTSIDE");
        for (int what : BAD_WHAT) refused("cut(0, 3, " + what + ")", Edges::busy, x -> x.cut(0, 3, what), OUTSIDE);
        sentence(24, "UNKNOWN ahead of OUTSIDE");
        refused("cut(0, 4, 2)", Edges::busy, x -> x.cut(0, 4, 2), UNKNOWN);
        refused("cut(0, 0, -1)", Edges::busy, x -> x.cut(0, 0, -1), UNKNOWN);
    }

    private static void cut() {
        sentence(24, "none gets from one to the other: none need be SHUT");
        refused("cut(0, 3, 0)", TriedEdgesTest::lone, x -> x.cut(0, 3, 0), 0);
        refused("cut(0, 3, 1)", TriedEdgesTest::lone, x -> x.cut(0, 3, 1), 0);
        due("cut(0, 6, 0), no CORNER", Edges.townOf(Edges.SEVEN).cut(0, 6, 0), 0);
        sentence(24, "of like ones the least");
        StreetTongues chain = Edges.townOf(Edges.CHAIN);
        due("cut(0, 6, 0)", chain.cut(0, 6, 0), 1);
        due("cut(6, 0, 0)", chain.cut(6, 0, 0), 1);
        due("cut(6, 5, 0), the last", chain.cut(6, 5, 0), 32);
        due("cut(2, 5, 0)", chain.cut(2, 5, 0), 4);
        sentence(24, "the fewest: one ahead of a lesser SET of two");
        StreetTongues late = Edges.townOf("t2;s0 1;s0 1;s0 1;s0 1;i0 1 3 0 0 0;i0 2 3 0 0 0;i1 2 3 0 0 0;i2 3 3 0 0 0;");
        due("cut(0, 3, 0)", late.cut(0, 3, 0), 8);
        due("cut(0, 3, 1)", late.cut(0, 3, 1), 1);
        sentence(24, "as many as there can be");
        StreetTongues ten = Edges.townOf(Edges.TEN);
        due("cut(5, 6, 0)", ten.cut(5, 6, 0), 31);
        due("cut(5, 6, 1)", ten.cut(5, 6, 1), 5);
        due("cut(6, 5, 0)", ten.cut(6, 5, 0), 31);
        due("cut(0, 4, 0)", ten.cut(0, 4, 0), 33);
        StreetTongues five = Edges.townOf(FIVE);
        due("cut(0, 4, 0)", five.cut(0, 4, 0), 15);
        due("cut(3, 4, 1)", five.cut(3, 4, 1), 4);
        sentence(24, "those that are SHUT already do not count");
        for (int i = 5; i < 9; i++) ten.shut(i, true);
        due("cut(6, 4, 0), the tenth", ten.cut(6, 4, 0), 512);
        due("cut(6, 0, 0)", ten.cut(6, 0, 0), 1);
        ten.shut(9, true);
        due("cut(6, 0, 1)", ten.cut(6, 0, 1), 0);
        tried("cut(0, 3, 0)", x -> x.cut(0, 3, 0), 1);
    }

    private static void walk() {
        sentence(25, "UNKNOWN");
        for (int bad : BAD) refused("walk(" + bad + ")", Edges::busy, x -> x.walk(bad), UNKNOWN);
        due("walk(7)", Edges.townOf(STAR).walk(7), UNKNOWN);
        sentence(25, "NONE");
        due("walk(0), two without a CORNER", Edges.townOf("t2;s0 1;s0 1;").walk(0), NONE);
        StreetTongues six = Edges.townOf(Edges.SEVEN + "i0 1 3 0 0 0;i1 2 3 0 0 0;i2 3 3 0 0 0;i3 4 3 0 0 0;i4 5 3 0 0 0;");
        for (int a = 0; a < 7; a++) due("walk(" + a + "), one is far off", six.walk(a), NONE);
        sentence(25, "the fewest CORNERS gone by (some perhaps again)");
        due("walk(0), one STREET", Edges.townOf("t2;s0 1;").walk(0), 0);
        due("walk(1), two", Edges.townOf(Edges.SMALL).walk(1), 1);
        StreetTongues chain = Edges.townOf(Edges.CHAIN);
        int[] due = {6, 7, 8, 9, 8, 7, 6};
        for (int a = 0; a < 7; a++) due("walk(" + a + "), a chain", chain.walk(a), due[a]);
        StreetTongues star = Edges.townOf(STAR);
        for (int a = 0; a < 7; a++) due("walk(" + a + "), a star", star.walk(a), a == 0 ? 11 : 10);
        StreetTongues round = Edges.townOf(ROUND);
        for (int a = 0; a < 7; a++) due("walk(" + a + "), a ring", round.walk(a), 6);
        sentence(25, "SHUT ones, too: with his hands");
        for (int i = 0; i < 6; i++) star.shut(i, true);
        for (int a = 0; a < 7; a++) due("walk(" + a + "), all are SHUT", star.walk(a), a == 0 ? 11 : 10);
        refused("walk(3)", TriedEdgesTest::lone, x -> x.walk(3), 3);
    }

    private static void holds() {
        sentence(26, "n CORNERS (0 .. 60), q of a hundred (0 .. 100): OUTSIDE");
        for (int n : new int[] {-1, 61, LEAST, MOST}) refused("holds(" + n + ", 50)", Edges::busy, x -> x.holds(n, 50), OUTSIDE);
        for (int q : new int[] {-1, 101, LEAST, MOST}) {
            refused("holds(0, " + q + ")", Edges::busy, x -> x.holds(0, q), OUTSIDE);
            refused("holds(60, " + q + ")", Edges::noTown, x -> x.holds(60, q), OUTSIDE);
        }
        refused("holds(-1, 101)", Edges::noTown, x -> x.holds(-1, 101), OUTSIDE);
        sentence(26, "both ends of both");
        StreetTongues x = new StreetTongues();
        due("holds(0, 0)", x.holds(0, 0), 1000000000);
        due("holds(0, 100)", x.holds(0, 100), 1000000000);
        due("holds(1, 0)", x.holds(1, 0), 0);
        due("holds(60, 0)", x.holds(60, 0), 0);
        due("holds(1, 100)", x.holds(1, 100), 1000000000);
        due("holds(60, 100)", x.holds(60, 100), 1000000000);
        due("holds(1, 1)", x.holds(1, 1), 10000000);
        due("holds(1, 99)", x.holds(1, 99), 990000000);
        sentence(26, "a BILLION times q / 100 each (cut)");
        int[] byOne = {1000000000, 10000000, 100000, 1000, 10, 0, 0};
        for (int n = 0; n < byOne.length; n++) due("holds(" + n + ", 1)", x.holds(n, 1), byOne[n]);
        due("holds(60, 1)", x.holds(60, 1), 0);
        long odds = 1000000000L;
        for (int n = 1; n <= 60; n++) {
            odds = (odds * 99 - odds * 99 % 100) / 100;
            due("holds(" + n + ", 99)", x.holds(n, 99), (int) odds);
        }
        tried("holds(60, 50)", y -> y.holds(60, 50), 0);
    }
}
