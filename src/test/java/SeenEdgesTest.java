import java.util.function.Supplier;
import java.util.function.ToIntFunction;

/** The edges of promises 27 to 35: what is seen, the book, the seed, images. */
public final class SeenEdgesTest {
    private static final int NONE = Edges.NONE, UNKNOWN = Edges.UNKNOWN, OUTSIDE = Edges.OUTSIDE, NOT = Edges.NOT, FULL = Edges.FULL;
    private static final int LEAST = Edges.LEAST, MOST = Edges.MOST;
    /** What no street and no word of the square is: it has four of each. */
    private static final int[] BAD = {-1, 4, 7, 8, LEAST, MOST};

    public static void main(String[] args) {
        see();
        slipsRefused();
        slipsRows();
        slipsFirst();
        tryNext();
        writeRefused();
        write();
        tear();
        judge();
        seed();
        keepRefused();
        keep();
        goBackRefused();
        goBack();
        Edges.finish(27, 35);
    }

    private static void due(String call, int got, int want) { Edges.due(call, got, want); }

    private static void sentence(int promise, String words) { Edges.sentence(promise, words); }

    private static void refused(String call, Supplier<StreetTongues> scene, ToIntFunction<StreetTongues> act, int want) {
        Edges.refused(call, scene, act, want);
    }

    private static void see() {
        sentence(27, "UNKNOWN");
        for (int bad : BAD) {
            refused("see(" + bad + ", 0)", Edges::busy, x -> x.see(bad, 0), UNKNOWN);
            refused("see(0, " + bad + ")", Edges::busy, x -> x.see(0, bad), UNKNOWN);
            refused("see(" + bad + ", " + bad + ")", Edges::busy, x -> x.see(bad, bad), UNKNOWN);
        }
        sentence(27, "SEEN: how much; a WORD became a WORD, both ends, the same, too");
        StreetTongues x = Edges.townOf("t8;");
        int[][] pairs = {{0, 7}, {7, 0}, {7, 7}, {0, 0}, {0, 0}, {0, 3}};
        for (int k = 0; k < 6; k++) {
            due("see(" + pairs[k][0] + ", " + pairs[k][1] + ")", x.see(pairs[k][0], pairs[k][1]), k + 1);
            due("told(11)", x.told(11), k + 1);
        }
        sentence(27, "FULL (6)");
        due("see(0, 7)", x.see(0, 7), FULL);
        due("told(11)", x.told(11), 6);
        refused("see(0, 1)", Edges::full, y -> y.see(0, 1), FULL);
        refused("see(1, 1)", Edges::full, y -> y.see(1, 1), FULL);
        sentence(27, "UNKNOWN ahead of FULL");
        refused("see(2, 0)", Edges::full, y -> y.see(2, 0), UNKNOWN);
        refused("see(0, -1)", Edges::full, y -> y.see(0, -1), UNKNOWN);
        due("see(8, 0)", x.see(8, 0), UNKNOWN);
        due("see(0, 8)", x.see(0, 8), UNKNOWN);
        sentence(27, "SEEN behind tear(), behind town()");
        x.tear();
        due("see(7, 7)", x.see(7, 7), 1);
        Edges.tell(x, "t2;").town();
        due("see(1, 0)", x.see(1, 0), 1);
        due("see(7, 7), the words of the TOWN now", x.see(7, 7), UNKNOWN);
    }

    private static void slipsRefused() {
        sentence(28, "OUTSIDE");
        for (int what : new int[] {-1, 2, LEAST, MOST}) {
            refused("slips(" + what + ")", Edges::busy, x -> x.slips(what), OUTSIDE);
            refused("slips(" + what + ")", Edges::noTown, x -> x.slips(what), OUTSIDE);
            refused("slips(" + what + ")", Edges::full, x -> x.slips(what), OUTSIDE);
        }
        sentence(28, "none without a TOWN; NONE");
        refused("slips(0)", Edges::noTown, x -> x.slips(0), 0);
        refused("slips(1)", Edges::noTown, x -> x.slips(1), NONE);
        StreetTongues gone = Edges.settled();
        gone.town();
        due("slips(0) behind an empty text", gone.slips(0), 0);
        due("slips(1) behind an empty text", gone.slips(1), NONE);
    }

    private static StreetTongues seen(int words, int... pairs) {
        StreetTongues x = Edges.townOf("t" + words + ";");
        for (int k = 0; k + 1 < pairs.length; k += 2) x.see(pairs[k], pairs[k + 1]);
        return x;
    }

    private static void slips(int howMany, int first, int words, int... pairs) {
        StreetTongues x = seen(words, pairs);
        StringBuilder name = new StringBuilder("N " + words + " SEEN");
        for (int k : pairs) name.append(' ').append(k);
        due("slips(0), " + name, x.slips(0), howMany);
        due("slips(1), " + name, x.slips(1), first);
    }

    private static void slipsRows() {
        sentence(28, "nothing is SEEN: all rows");
        for (int n = 2; n <= 8; n++) slips(n * (n - 1) / 2 + n * (n - 1) + n - 1 + 1, 1, n);
        sentence(28, "S 0 with K below L");
        slips(1, 1, 8, 0, 1, 1, 0);
        slips(1, 7, 8, 7, 0, 0, 7);
        slips(1, 67, 8, 7, 6, 6, 7);
        sentence(28, "S 1 with unlike ones");
        slips(1, 101, 8, 0, 1, 1, 1);
        slips(1, 110, 8, 1, 0, 0, 0);
        slips(1, 107, 8, 0, 7, 7, 7);
        slips(1, 176, 8, 7, 6, 6, 6);
        sentence(28, "S 2 with K 1 on, L 0");
        slips(1, 210, 8, 0, 1, 7, 0);
        slips(1, 270, 8, 0, 7, 7, 6);
        slips(2, 1, 2, 0, 1, 1, 0);
        sentence(28, "S 3 with K, L 0");
        slips(1, 300, 2, 0, 0, 1, 1);
        slips(1, 300, 6, 0, 0, 1, 1, 2, 2, 3, 3, 4, 4, 5, 5);
    }

    private static void slipsFirst() {
        sentence(28, "how many; the first (100 S, 10 K, L; rising)");
        slips(3, 7, 8, 0, 7);
        slips(3, 7, 8, 7, 0);
        slips(16, 67, 8, 0, 0, 1, 1, 2, 2, 3, 3, 4, 4, 5, 5);
        slips(16, 1, 8, 2, 2, 3, 3, 4, 4, 5, 5, 6, 6, 7, 7);
        slips(7, 160, 7, 0, 0, 1, 1, 2, 2, 3, 3, 4, 4, 5, 5);
        sentence(28, "by which all that is SEEN is so: the sixth, too; NONE");
        slips(0, NONE, 2, 0, 0, 0, 1);
        slips(0, NONE, 8, 0, 1, 1, 2, 2, 3, 3, 4, 4, 5, 5, 7);
        slips(1, 210, 8, 0, 1, 1, 2, 2, 3, 3, 4, 4, 5, 5, 6);
        slips(0, NONE, 2, 0, 0, 1, 1, 0, 0, 1, 1, 0, 0, 1, 0);
    }

    private static void tryNext() {
        sentence(29, "NONE: none parts them: no row, one row, like ones");
        refused("tryNext()", Edges::noTown, StreetTongues::tryNext, NONE);
        due("tryNext(), none fits", seen(2, 0, 0, 0, 1).tryNext(), NONE);
        due("tryNext(), one is left", seen(8, 0, 1, 1, 0).tryNext(), NONE);
        due("tryNext(), plain is left", seen(2, 0, 0, 1, 1).tryNext(), NONE);
        due("tryNext(), two that do the same", seen(2, 0, 1, 1, 0).tryNext(), NONE);
        refused("tryNext(), all is full", Edges::full, StreetTongues::tryNext, NONE);
        sentence(29, "the greatest part that is alike is least; of like ones the least");
        for (int n = 2; n <= 8; n++) due("tryNext(), nothing SEEN, N " + n, seen(n).tryNext(), 0);
        due("tryNext(), swap, turn or on by 1", seen(4, 0, 1).tryNext(), 1);
        due("tryNext(), of like ones the least", seen(8, 0, 0, 1, 1, 2, 2, 3, 3, 4, 4, 5, 5).tryNext(), 6);
        sentence(29, "the last WORD");
        due("tryNext(), three parts ahead of two", seen(8, 0, 7).tryNext(), 7);
        due("tryNext(), N 7", seen(7, 0, 0, 1, 1, 2, 2, 3, 3, 4, 4, 5, 5).tryNext(), 6);
        due("tryNext(), N 2", seen(2, 0, 0).tryNext(), 1);
    }

    /** No SAYINGS in a town of four words; 0 is none, but can be written. */
    private static final int[] NO_SAYINGS = {
        -1, 5, 9, 10, 15, 40, 51, 101, 110, 1011, 1101, 1110, 1115, 1151, 1511, 5111, 9999, 10000, 11111, 44444, -11, LEAST, MOST};

    private static void writeRefused() {
        sentence(30, "UNKNOWN");
        for (int bad : BAD) {
            refused("write(" + bad + ", 0)", Edges::busy, x -> x.write(bad, 0), UNKNOWN);
            refused("write(" + bad + ", 1)", Edges::busy, x -> x.write(bad, 1), UNKNOWN);
        }
        sentence(30, "a SAYING, or 0: OUTSIDE");
        for (int saying : NO_SAYINGS) refused("write(3, " + saying + ")", Edges::busy, x -> x.write(3, saying), OUTSIDE);
        sentence(30, "FULL (15)");
        refused("write(0, 0)", Edges::full, x -> x.write(0, 0), FULL);
        refused("write(1, 2222)", Edges::full, x -> x.write(1, 2222), FULL);
        sentence(30, "UNKNOWN ahead of OUTSIDE ahead of FULL");
        refused("write(4, 5)", Edges::busy, x -> x.write(4, 5), UNKNOWN);
        refused("write(2, 0)", Edges::full, x -> x.write(2, 0), UNKNOWN);
        refused("write(-1, 3)", Edges::full, x -> x.write(-1, 3), UNKNOWN);
        refused("write(0, 3)", Edges::full, x -> x.write(0, 3), OUTSIDE);
        refused("write(1, -1)", Edges::full, x -> x.write(1, -1), OUTSIDE);
    }

    private static void write() {
        sentence(30, "how many");
        StreetTongues x = Edges.townOf("t8;s0 1;s0 1;s0 1;s0 1;s0 1;s0 1;s0 1;");
        int[] sayings = {0, 1, 8, 11, 88, 111, 888, 1111, 8888, 1238, 0, 0, 1, 1, 7};
        for (int k = 0; k < 15; k++) {
            due("write(" + k % 7 + ", " + sayings[k] + ")", x.write(k % 7, sayings[k]), k + 1);
            due("told(12)", x.told(12), k + 1);
        }
        due("write(6, 0), the 16th", x.write(6, 0), FULL);
        due("write(7, 0)", x.write(7, 0), UNKNOWN);
        due("write(6, 9)", x.write(6, 9), OUTSIDE);
        due("told(12)", x.told(12), 15);
        sentence(30, "behind tear(), behind town()");
        x.tear();
        due("write(6, 8888)", x.write(6, 8888), 1);
        Edges.tell(x, "t2;s0 1;").town();
        due("write(0, 2)", x.write(0, 2), 1);
        due("write(0, 8)", x.write(0, 8), OUTSIDE);
        due("write(1, 2)", x.write(1, 2), UNKNOWN);
    }

    private static void tear() {
        sentence(31, "how much both had: nothing, one of either, all");
        due("tear()", new StreetTongues().tear(), 0);
        StreetTongues x = Edges.townOf(Edges.SMALL);
        due("tear()", x.tear(), 0);
        x.see(0, 0);
        due("tear()", x.tear(), 1);
        x.write(0, 0);
        due("tear()", x.tear(), 1);
        x = Edges.full();
        due("tear()", x.tear(), 21);
        sentence(31, "Nothing SEEN, THE BOOK is empty");
        due("told(11)", x.told(11), 0);
        due("told(12)", x.told(12), 0);
        due("slips(0)", x.slips(0), 5);
        due("judge()", x.judge(), NONE);
        due("tear() again", x.tear(), 0);
        due("see(0, 0)", x.see(0, 0), 1);
        due("write(0, 0)", x.write(0, 0), 1);
        sentence(31, "nothing else: what can be undone, IMAGES, THE SEED, THE TEXT stay");
        StreetTongues torn = Edges.busy();
        due("tear()", torn.tear(), 2);
        torn.see(0, 1);
        torn.write(1, 2);
        Edges.alike("tear()", Edges.all(torn), Edges.all(Edges.busy()));
    }

    private static void judge() {
        sentence(32, "NONE");
        due("judge(), no TOWN", new StreetTongues().judge(), NONE);
        StreetTongues x = Edges.townOf(Edges.SMALL);
        due("judge(), THE BOOK is empty", x.judge(), NONE);
        for (int k = 0; k < 15; k++) x.write(k % 2, 0);
        due("judge(), nothing HEARD", x.judge(), NONE);
        sentence(32, "the first that is otherwise now");
        x.say(0, false, 22);
        due("judge(), of street 1 the first", x.judge(), 1);
        x.say(0, true, 22);
        due("judge(), the first of all", x.judge(), 0);
        x.undo();
        due("judge(), by what is so now", x.judge(), 1);
        x.undo();
        due("judge()", x.judge(), NONE);
        sentence(32, "the last of 15");
        StreetTongues y = Edges.townOf(Edges.SMALL);
        y.say(0, false, 2);
        for (int k = 0; k < 14; k++) y.write(k % 2, k % 2 * 2);
        due("judge()", y.judge(), NONE);
        y.write(1, 22);
        due("judge()", y.judge(), 14);
        y.say(0, false, 22);
        due("judge(), the second is otherwise now", y.judge(), 1);
        sentence(32, "0: nothing was HEARD");
        StreetTongues z = Edges.townOf(Edges.SMALL);
        z.write(0, 1);
        due("judge()", z.judge(), 0);
        z.say(0, true, 1);
        due("judge()", z.judge(), NONE);
        refused("judge(), all is full", Edges::full, StreetTongues::judge, 0);
    }

    private static void seed() {
        sentence(33, "OUTSIDE");
        for (int v : new int[] {-1, -2, -MOST, LEAST}) {
            refused("seed(" + v + ")", Edges::busy, x -> x.seed(v), OUTSIDE);
            refused("seed(" + v + ")", Edges::noTown, x -> x.seed(v), OUTSIDE);
        }
        sentence(33, "v (0 .. 2147483647): what it was (0 at first)");
        StreetTongues x = new StreetTongues();
        due("seed(0)", x.seed(0), 0);
        due("seed(2147483647)", x.seed(MOST), 0);
        due("seed(2147483646)", x.seed(MOST - 1), MOST);
        due("seed(1)", x.seed(1), MOST - 1);
        due("seed(0)", x.seed(0), 1);
        due("seed(5)", x.seed(5), 0);
        sentence(33, "THE SEED stays behind town(), of whatever text");
        x.town();
        due("seed(6)", x.seed(6), 5);
        Edges.tell(x, "x").town();
        due("seed(7)", x.seed(7), 6);
        Edges.tell(x, Edges.SMALL).town();
        due("seed(2147483647)", x.seed(MOST), 7);
        sentence(33, "left over by 2 to the 31: from the greatest");
        x.drift(1);
        int next = (int) ((MOST * 1103515245L + 12345L) % 2147483648L);
        due("one DRAW from the greatest", next, 1043980748);
        due("it is below 2 to the 31", x.seed(0) >= 0 ? 1 : 0, 1);
    }

    private static void keepRefused() {
        sentence(34, "UNKNOWN");
        for (int i : new int[] {-1, 2, 31, 32, LEAST, MOST}) {
            refused("keep(" + i + ")", Edges::busy, x -> x.keep(i), UNKNOWN);
            refused("keep(" + i + ")", Edges::full, x -> x.keep(i), UNKNOWN);
            refused("keep(" + i + ")", Edges::noTown, x -> x.keep(i), UNKNOWN);
        }
        sentence(34, "IMAGES 0, 1: without a TOWN, too");
        for (int i = 0; i < 2; i++) {
            StreetTongues x = new StreetTongues();
            x.seed(9);
            due("keep(" + i + ")", x.keep(i), 1);
            x.seed(10);
            due("goBack(" + (1 - i) + ")", x.goBack(1 - i), NOT);
            due("goBack(" + i + ")", x.goBack(i), 1);
            due("seed(0)", x.seed(0), 9);
        }
    }

    private static void keep() {
        sentence(34, "nothing can be undone then");
        for (int i = 0; i < 2; i++) {
            StreetTongues x = Edges.full();
            due("told(13)", x.told(13), 16);
            due("keep(" + i + ")", x.keep(i), 1);
            due("told(13)", x.told(13), 0);
            due("undo()", x.undo(), NOT);
            due("told(10), all else stays", x.told(10), 20);
            x.say(0, false, 1);
            due("told(13)", x.told(13), 1);
            due("undo()", x.undo(), 0);
        }
        sentence(34, "IMAGE i becomes what is so: once more, and not the other");
        StreetTongues x = Edges.townOf(Edges.SMALL);
        for (int k = 0; k < 4; k++) {
            due("keep(" + k % 2 + ")", x.keep(k % 2), 1);
            x.say(0, false, 1);
        }
        due("goBack(0)", x.goBack(0), 1);
        due("told(4), the third", x.told(4), 2);
        due("goBack(1)", x.goBack(1), 1);
        due("told(4), the fourth", x.told(4), 3);
        due("keep(0)", x.keep(0), 1);
        x.say(0, false, 1);
        due("goBack(0)", x.goBack(0), 1);
        due("told(4)", x.told(4), 3);
        sentence(34, "all of section 2, THE SEED");
        StreetTongues y = Edges.settled();
        y.keep(0);
        String kept = Edges.affairs(y) + Edges.seedOf(y);
        String log = logOf(y);
        y.drift(60);
        y.mend(1);
        y.quarrel(0, 3, true);
        due("goBack(0)", y.goBack(0), 1);
        Edges.alike("goBack(0)", Edges.affairs(y) + Edges.seedOf(y), kept);
        Edges.alike("goBack(0), THE LOG", logOf(y), log);
    }

    private static String logOf(StreetTongues x) {
        StringBuilder s = new StringBuilder();
        for (int i = 0; i < 20; i++) for (int what = 0; what < 4; what++) s.append(x.logged(i, what)).append(' ');
        return s.toString();
    }

    /** Much was done, nothing kept. */
    private static StreetTongues unkept() {
        StreetTongues x = Edges.townOf(Edges.SQUARE);
        x.say(0, false, 1);
        x.shut(1, true);
        return x;
    }

    private static void goBackRefused() {
        sentence(35, "UNKNOWN");
        for (int i : new int[] {-1, 2, 31, 32, LEAST, MOST}) {
            refused("goBack(" + i + ")", Edges::busy, x -> x.goBack(i), UNKNOWN);
            refused("goBack(" + i + "), none kept", SeenEdgesTest::unkept, x -> x.goBack(i), UNKNOWN);
        }
        sentence(35, "NOT: it was not kept");
        refused("goBack(0)", SeenEdgesTest::unkept, x -> x.goBack(0), NOT);
        refused("goBack(1)", SeenEdgesTest::unkept, x -> x.goBack(1), NOT);
        refused("goBack(0), 1 alone was kept", Edges::full, x -> x.goBack(0), NOT);
        sentence(35, "NOT: behind town() it is gone, behind a faulty one not");
        StreetTongues x = Edges.settled();
        Edges.tell(x, "t").town();
        due("goBack(0)", x.goBack(0), 1);
        due("goBack(1)", x.goBack(1), 1);
        Edges.tell(x, "t2;").town();
        due("goBack(0)", x.goBack(0), NOT);
        due("goBack(1)", x.goBack(1), NOT);
    }

    private static void goBack() {
        sentence(35, "nothing can be undone then");
        StreetTongues x = Edges.full();
        due("goBack(1)", x.goBack(1), 1);
        due("told(13)", x.told(13), 0);
        due("undo()", x.undo(), NOT);
        due("told(10), THE LOG was empty", x.told(10), 0);
        due("told(11), what is SEEN stays", x.told(11), 6);
        due("told(12), THE BOOK stays", x.told(12), 15);
        sentence(35, "What is so becomes IMAGE i: as often as one likes");
        for (int k = 0; k < 3; k++) {
            x.say(0, false, 12);
            x.mend(0);
            due("told(13)", x.told(13), 2);
            due("goBack(1)", x.goBack(1), 1);
            due("told(4)", x.told(4), 0);
            due("told(13)", x.told(13), 0);
            due("logged(0, 0)", x.logged(0, 0), NONE);
        }
        sentence(35, "THE SEED goes back, too; THE TEXT stays");
        StreetTongues y = Edges.busy();
        due("goBack(1)", y.goBack(1), 1);
        due("the seed", Edges.seedOf(y), 77);
        due("goBack(0)", y.goBack(0), 1);
        due("the seed", Edges.seedOf(y), 78);
        due("told(3)", y.told(3), 2);
        y.undo();
        due("the seed", Edges.seedOf(y), 78);
    }
}
