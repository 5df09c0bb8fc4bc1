import java.math.BigInteger;
import java.util.ArrayDeque;
import java.util.Deque;
import java.util.function.Supplier;
import java.util.function.ToIntFunction;

/** The edges of promises 9 to 15, and of section 2: what is done, and undone. */
public final class DoneEdgesTest {
    private static final int UNKNOWN = Edges.UNKNOWN, OUTSIDE = Edges.OUTSIDE, NOT = Edges.NOT;
    private static final int LEAST = Edges.LEAST, MOST = Edges.MOST;
    /** No SAYINGS in a town of four words. */
    private static final int[] NO_SAYINGS = {
        0, -1, 5, 9, 10, 15, 40, 51, 101, 110, 415, 1011, 1101, 1110, 1115, 1151, 1511, 5111, 9999, 10000, 11111, 44444, 100001,
        -11, -1111, LEAST, MOST};
    private static final String PLAIN = "t4;s0 1;s0 1;i0 1 3 0 0 5;";
    /** From here 60 days in the chain of seven pay 16533 pence and leave every corner open. */
    private static final int GOOD_SEED = 14982, GOOD_DAYS = 16533;

    public static void main(String[] args) {
        sayRefused();
        sayingsTaken();
        putOverAround();
        feudsAndHusbands();
        whereTheWordStands();
        penceAtMost();
        sendRefused();
        sendWays();
        shut();
        mend();
        quarrel();
        driftRefused();
        driftDraws();
        driftOfTwoStreets();
        undoNone();
        undoSixteen();
        undoAround();
        undoLeaves();
        Edges.finish(9, 15);
    }

    private static void due(String call, int got, int want) { Edges.due(call, got, want); }

    private static void sentence(int promise, String words) { Edges.sentence(promise, words); }

    private static void refused(String call, Supplier<StreetTongues> scene, ToIntFunction<StreetTongues> act, int want) {
        Edges.refused(call, scene, act, want);
    }

    private static void sayRefused() {
        sentence(9, "UNKNOWN");
        for (int i : new int[] {-1, 4, 10, LEAST, MOST}) {
            refused("say(" + i + ", false, 1)", Edges::busy, x -> x.say(i, false, 1), UNKNOWN);
            refused("say(" + i + ", true, 1)", Edges::busy, x -> x.say(i, true, 1), UNKNOWN);
        }
        due("say(9, false, 1), the tenth", Edges.townOf(Edges.TEN).say(9, false, 1), 1);
        due("say(10, false, 1)", Edges.townOf(Edges.TEN).say(10, false, 1), UNKNOWN);
        sentence(9, "OUTSIDE (no SAYING)");
        for (int saying : NO_SAYINGS) {
            refused("say(0, false, " + saying + ")", Edges::busy, x -> x.say(0, false, saying), OUTSIDE);
        }
        sentence(9, "NOT: it is SHUT");
        refused("say(2, false, 1)", Edges::busy, x -> x.say(2, false, 1), NOT);
        refused("say(2, true, 1)", Edges::busy, x -> x.say(2, true, 1), NOT);
        StreetTongues open = Edges.busy();
        open.shut(2, false);
        due("say(2, false, 1), OPEN again", open.say(2, false, 1), 1);
        sentence(9, "UNKNOWN ahead of OUTSIDE ahead of NOT");
        refused("say(4, false, 0)", Edges::busy, x -> x.say(4, false, 0), UNKNOWN);
        refused("say(-1, false, 5)", Edges::busy, x -> x.say(-1, false, 5), UNKNOWN);
        refused("say(2, false, 0)", Edges::busy, x -> x.say(2, false, 0), OUTSIDE);
        refused("say(2, true, 11111)", Edges::busy, x -> x.say(2, true, 11111), OUTSIDE);
        sentence(9, "refused where all is full");
        refused("say(1, false, 1)", Edges::full, x -> x.say(1, false, 1), UNKNOWN);
        refused("say(0, false, 3)", Edges::full, x -> x.say(0, false, 3), OUTSIDE);
    }

    private static void sayingsTaken() {
        sentence(9, "figures, each 1 more than a WORD, 1 to 4 of them");
        StreetTongues two = Edges.townOf(Edges.SMALL);
        for (int s : new int[] {1, 2, 11, 22, 111, 222, 1111, 2222, 1212}) due("say(0, false, " + s + "), N 2", two.say(0, false, s), s);
        for (int s : new int[] {3, 13, 31, 113, 131, 311, 2223, 2232, 2322, 3222, 11111}) {
            due("say(0, false, " + s + "), N 2", two.say(0, false, s), OUTSIDE);
        }
        StreetTongues eight = Edges.townOf("t8;s0 1;s0 1;i0 1 3 0 0 0;");
        for (int s : new int[] {1, 8, 18, 81, 888, 1111, 8888, 1238}) due("say(0, true, " + s + "), N 8", eight.say(0, true, s), s);
        for (int s : new int[] {9, 19, 91, 8889, 8898, 8988, 9888, 80, 808, 8088, 88888}) {
            due("say(0, true, " + s + "), N 8", eight.say(0, true, s), OUTSIDE);
        }
        sentence(9, "PRICE is paid (for the SAYING)");
        StreetTongues x = Edges.townOf("t4;s0 1;s0 1;s0 1;i0 1 3 0 0 0;i1 2 3 0 0 99;");
        x.say(0, false, 3333);
        due("told(4), PRICE 0", x.told(4), 0);
        x.say(1, true, 3333);
        due("told(4), PRICE 99", x.told(4), 99);
        x.say(1, false, 3);
        due("told(4)", x.told(4), 198);
    }

    private static void putOverAround() {
        sentence(9, "what is left over of w and K by N; from B to A of w and N, less K, by N");
        StreetTongues x = Edges.townOf("t8;s0 1;s0 1;s0 1;s0 1;i0 1 2 7 0 0;i1 2 2 1 0 0;i2 3 2 0 3 0;");
        due("say(0, false, 1278)", x.say(0, false, 1278), 8167);
        due("say(0, true, 1278)", x.say(0, true, 1278), 2381);
        due("say(1, false, 8181)", x.say(1, false, 8181), 1212);
        due("say(1, true, 1818)", x.say(1, true, 1818), 8787);
        due("say(2, false, 1458)", x.say(2, false, 1458), 1458);
        due("say(2, true, 1458)", x.say(2, true, 1458), 1458);
        StreetTongues two = Edges.townOf("t2;s0 1;s0 1;i0 1 2 1 0 0;");
        due("say(0, false, 1122), N 2", two.say(0, false, 1122), 2211);
        due("say(0, true, 1122), N 2", two.say(0, true, 1122), 2211);
        sentence(9, "SORT 0: K becomes L, and L K. SORT 1: K becomes L; the first and the last WORD; K like L");
        StreetTongues y = Edges.townOf("t8;s0 1;s0 1;s0 1;s0 1;i0 1 0 0 7 0;i1 2 1 7 0 0;i2 3 0 4 4 0;i0 3 1 4 4 0;");
        due("say(0, false, 1872)", y.say(0, false, 1872), 8172);
        due("say(0, true, 8172)", y.say(0, true, 8172), 1872);
        due("say(1, false, 8818)", y.say(1, false, 8818), 1111);
        due("say(1, true, 8818)", y.say(1, true, 8818), 1111);
        due("say(2, false, 5858)", y.say(2, false, 5858), 5858);
        due("say(3, true, 5858)", y.say(3, true, 5858), 5858);
    }

    private static void feudsAndHusbands() {
        sentence(9, "If it has its INSULT in it, it is in FEUD from now on");
        StreetTongues x = Edges.townOf(PLAIN);
        x.say(0, false, 3);
        due("told(6), neither", x.told(6), 0);
        due("told(5), neither", x.told(5), 0);
        x.say(0, false, 1);
        due("told(6)", x.told(6), 1);
        x.say(0, false, 1);
        due("told(6), already in FEUD", x.told(6), 1);
        sentence(9, "else, if it has its YES, that FEUD ends, if there is one");
        x.say(0, false, 12);
        due("told(6), INSULT goes first", x.told(6), 1);
        x.say(0, false, 4);
        due("told(6), neither", x.told(6), 1);
        x.say(0, false, 2);
        due("told(6)", x.told(6), 0);
        due("told(5)", x.told(5), 0);
        sentence(9, "HUSBANDS are counted, if there was none");
        x.say(0, false, 2222);
        due("told(5), one however often", x.told(5), 1);
        due("told(6)", x.told(6), 0);
        x.say(0, true, 2);
        due("told(5)", x.told(5), 2);
        x.say(0, false, 21);
        due("told(5), INSULT goes first", x.told(5), 2);
        due("told(6)", x.told(6), 1);
        sentence(9, "FEUDS are between two STREETS, both ways");
        x.say(0, true, 2);
        due("told(6), ended from the other side", x.told(6), 0);
        due("told(5)", x.told(5), 2);
        sentence(9, "that FEUD ends, not one with another");
        StreetTongues three = Edges.townOf("t2;s0 1;s0 1;s0 1;i0 1 3 0 0 0;i2 1 3 0 0 0;");
        three.say(0, false, 1);
        three.say(1, false, 2);
        due("told(5)", three.told(5), 1);
        due("street(1, 3)", three.street(1, 3), 1);
        sentence(9, "its INSULT, its YES: the hearer's, of what it became");
        StreetTongues turned = Edges.townOf("t4;s0 1;s2 3;i0 1 0 0 2 0;");
        turned.say(0, false, 3);
        due("told(6), 2 becomes 0", turned.told(6), 0);
        turned.say(0, true, 1);
        due("told(6), 0 becomes 2", turned.told(6), 0);
        turned.say(0, false, 1);
        due("told(6), 0 becomes 2, the INSULT", turned.told(6), 1);
    }

    private static void whereTheWordStands() {
        sentence(9, "has its INSULT in it: at each of four figures");
        for (int saying : new int[] {1333, 3133, 3313, 3331, 133, 331, 13, 31, 1}) {
            StreetTongues x = Edges.townOf(PLAIN);
            x.say(0, false, saying);
            due("told(6) behind " + saying, x.told(6), 1);
            due("told(9) behind " + saying, x.told(9), 0);
        }
        sentence(9, "has its YES: at each of four figures");
        for (int saying : new int[] {2333, 3233, 3323, 3332, 233, 332, 23, 32, 2}) {
            StreetTongues x = Edges.townOf(PLAIN);
            x.say(0, false, saying);
            due("told(5) behind " + saying, x.told(5), 1);
            due("told(9) behind " + saying, x.told(9), Edges.NONE);
        }
        sentence(9, "THE LOG keeps the latest 20, and HEARD stays as its latest");
        StreetTongues x = Edges.full();
        due("say(0, false, 22)", x.say(0, false, 22), 22);
        due("told(10)", x.told(10), 20);
        due("logged(0, 3)", x.logged(0, 3), 22);
        due("street(1, 2)", x.street(1, 2), 22);
        due("told(13)", x.told(13), 16);
    }

    /** The chain of seven after so many times 60 days, within 512 calls. */
    private static StreetTongues rich(int times) {
        StreetTongues x = Edges.townOf(Edges.CHAIN);
        for (int k = 0; k < times; k++) {
            x.seed(GOOD_SEED);
            x.drift(60);
        }
        return x;
    }

    private static void penceAtMost() {
        sentence(14, "PENCE paid are counted (999999 at most)");
        StreetTongues x = rich(0);
        for (int k = 1; k <= 60; k++) {
            x.seed(GOOD_SEED);
            due("drift(60)", x.drift(60), k * GOOD_DAYS);
        }
        due("told(7)", x.told(7), 0);
        x.seed(GOOD_SEED);
        due("drift(60)", x.drift(60), 999999);
        due("undo()", x.undo(), 15);
        due("told(4)", x.told(4), 60 * GOOD_DAYS);
        sentence(10, "PENCE paid are counted (999999 at most)");
        for (int k = 1; k <= 13; k++) x.send(6, 0, 1);
        due("told(4)", x.told(4), 999702);
        x.send(6, 0, 1);
        due("told(4), too much", x.told(4), 999999);
        x.undo();
        due("told(4)", x.told(4), 999702);
        x.send(3, 0, 1);
        due("told(4), just as much", x.told(4), 999999);
        x.send(0, 6, 1);
        due("told(4), not more", x.told(4), 999999);
        sentence(9, "PENCE paid are counted (999999 at most)");
        x = rich(60);
        for (int k = 1; k <= 80; k++) x.say(k % 6, false, 1);
        due("told(4)", x.told(4), 999900);
        x.say(5, true, 1);
        due("told(4), just as much", x.told(4), 999999);
        x.say(5, true, 1);
        due("told(4), not more", x.told(4), 999999);
    }

    /** Busy, and street 3 has no way. */
    private static StreetTongues lone() {
        StreetTongues x = Edges.busy();
        x.shut(3, true);
        return x;
    }

    private static void sendRefused() {
        sentence(10, "UNKNOWN");
        for (int a : new int[] {-1, 4, 7, LEAST, MOST}) {
            refused("send(" + a + ", 1, 1)", Edges::busy, x -> x.send(a, 1, 1), UNKNOWN);
            refused("send(1, " + a + ", 1)", Edges::busy, x -> x.send(1, a, 1), UNKNOWN);
        }
        sentence(10, "UNKNOWN: one twice, where two are asked");
        for (int a : new int[] {0, 3, -1, 4}) refused("send(" + a + ", " + a + ", 1)", Edges::busy, x -> x.send(a, a, 1), UNKNOWN);
        sentence(10, "OUTSIDE (no SAYING)");
        for (int saying : NO_SAYINGS) {
            refused("send(0, 3, " + saying + ")", Edges::busy, x -> x.send(0, 3, saying), OUTSIDE);
        }
        sentence(10, "NOT: there is no WAY");
        for (int a = 0; a < 3; a++) {
            int other = a;
            refused("send(3, " + a + ", 1)", DoneEdgesTest::lone, x -> x.send(3, other, 1), NOT);
            refused("send(" + a + ", 3, 1)", DoneEdgesTest::lone, x -> x.send(other, 3, 1), NOT);
        }
        due("send(0, 1, 1), no CORNER at all", Edges.townOf("t2;s0 1;s0 1;").send(0, 1, 1), NOT);
        sentence(10, "UNKNOWN ahead of OUTSIDE ahead of NOT");
        refused("send(0, 4, 0)", DoneEdgesTest::lone, x -> x.send(0, 4, 0), UNKNOWN);
        refused("send(3, 3, 0)", DoneEdgesTest::lone, x -> x.send(3, 3, 0), UNKNOWN);
        refused("send(3, 3, 1)", DoneEdgesTest::lone, x -> x.send(3, 3, 1), UNKNOWN);
        refused("send(0, 3, 0)", DoneEdgesTest::lone, x -> x.send(0, 3, 0), OUTSIDE);
        refused("send(3, 0, 11111)", DoneEdgesTest::lone, x -> x.send(3, 0, 11111), OUTSIDE);
    }

    private static final String AROUND = "t8;s0 1;s0 1;s0 1;s0 1;s0 1;s0 1;s0 1;"
        + "i0 1 2 1 0 0;i1 2 2 1 0 0;i2 3 2 1 0 0;i3 4 2 1 0 0;i4 5 2 1 0 0;i5 6 2 1 0 0;";

    private static void sendWays() {
        sentence(10, "the WAY of least PENCE: six CORNERS for nothing ahead of one for a penny");
        StreetTongues x = Edges.townOf(AROUND + "i0 6 3 0 0 1;");
        due("send(0, 6, 1)", x.send(0, 6, 1), 7);
        due("told(4)", x.told(4), 0);
        due("send(6, 0, 1)", x.send(6, 0, 1), 3);
        sentence(10, "of like ones of fewest CORNERS");
        x = Edges.townOf(AROUND + "i0 6 3 0 0 0;");
        due("send(0, 6, 1)", x.send(0, 6, 1), 1);
        due("send(6, 0, 1)", x.send(6, 0, 1), 1);
        sentence(10, "of like ones the first (CORNERS one behind the other, the lesser number)");
        x = Edges.townOf("t8;s0 1;s0 1;s0 1;s0 1;i2 3 2 2 0 0;i0 2 3 0 0 0;i0 1 3 0 0 0;i1 3 2 1 0 0;");
        due("send(0, 3, 1), 1 0 ahead of 2 3", x.send(0, 3, 1), 3);
        due("send(3, 0, 1), 0 1 ahead of 3 2", x.send(3, 0, 1), 7);
        x = Edges.townOf("t8;s0 1;s0 1;s0 1;s0 1;i1 3 2 1 0 0;i0 2 3 0 0 0;i0 1 3 0 0 0;i2 3 2 2 0 0;");
        due("send(0, 3, 1), 1 3 ahead of 2 0", x.send(0, 3, 1), 3);
        due("send(3, 0, 1), 0 2 ahead of 3 1", x.send(3, 0, 1), 8);
        x = Edges.townOf("t8;s0 1;s0 1;s0 1;s0 1;s0 1;i0 1 3 0 0 0;i2 4 2 1 0 0;i1 2 3 0 0 0;i1 3 3 0 0 0;i3 4 2 2 0 0;");
        due("send(0, 4, 1), unlike from the second on", x.send(0, 4, 1), 2);
        sentence(10, "no CORNER is SHUT");
        x = Edges.townOf(AROUND + "i0 6 3 0 0 99;");
        x.shut(3, true);
        due("send(0, 6, 1)", x.send(0, 6, 1), 1);
        due("told(4)", x.told(4), 99);
        due("send(3, 4, 1), the other way round", x.send(3, 4, 1), 4);
        x.shut(3, false);
        due("send(0, 6, 1), OPEN again", x.send(0, 6, 1), 7);
        sentence(10, "the last STREET alone HEARS it, as SAID first where it began");
        x = Edges.townOf(Edges.CHAIN);
        due("send(0, 6, 1)", x.send(0, 6, 1), 1);
        due("told(4), the longest WAY", x.told(4), 594);
        for (int a = 0; a < 6; a++) due("street(" + a + ", 2)", x.street(a, 2), 0);
        due("street(6, 2)", x.street(6, 2), 1);
        due("street(6, 3)", x.street(6, 3), 1);
        due("told(10)", x.told(10), 1);
    }

    private static void shut() {
        sentence(11, "UNKNOWN");
        for (int i : new int[] {-1, 4, 10, 31, 32, LEAST, MOST}) {
            refused("shut(" + i + ", true)", Edges::busy, x -> x.shut(i, true), UNKNOWN);
            refused("shut(" + i + ", false)", Edges::busy, x -> x.shut(i, false), UNKNOWN);
        }
        refused("shut(1, true)", Edges::full, x -> x.shut(1, true), UNKNOWN);
        sentence(11, "1 it was SHUT, 0 not");
        StreetTongues x = Edges.townOf(Edges.TEN);
        for (int i : new int[] {0, 9}) {
            due("shut(" + i + ", false), OPEN at first", x.shut(i, false), 0);
            due("shut(" + i + ", true)", x.shut(i, true), 0);
            due("shut(" + i + ", true)", x.shut(i, true), 1);
            due("told(7)", x.told(7), 1 << i);
            due("shut(" + i + ", false)", x.shut(i, false), 1);
            due("shut(" + i + ", false)", x.shut(i, false), 0);
            due("told(7)", x.told(7), 0);
        }
        due("shut(10, true)", x.shut(10, true), UNKNOWN);
        due("told(13), what changes nothing counts, too", x.told(13), 10);
        sentence(11, "all are SHUT, none is");
        for (int i = 0; i < 10; i++) x.shut(i, true);
        due("told(7)", x.told(7), 1023);
        x.shut(5, false);
        due("told(7)", x.told(7), 991);
    }

    private static void mend() {
        sentence(12, "UNKNOWN");
        for (int i : new int[] {-1, 4, 10, LEAST, MOST}) refused("mend(" + i + ")", Edges::busy, x -> x.mend(i), UNKNOWN);
        refused("mend(1)", Edges::full, x -> x.mend(1), UNKNOWN);
        due("mend(9), the tenth", Edges.townOf(Edges.TEN).mend(9), 3);
        due("mend(10)", Edges.townOf(Edges.TEN).mend(10), UNKNOWN);
        sentence(12, "the SORT that it had");
        StreetTongues x = Edges.townOf("t2;s0 1;s0 1;s0 1;s0 1;i0 1 0 0 1 0;i1 2 1 0 1 0;i2 3 2 1 0 0;i3 0 3 0 0 0;");
        x.shut(3, true);
        for (int i = 0; i < 4; i++) due("mend(" + i + ")", x.mend(i), i);
        sentence(12, "SORT 3 from now on");
        for (int i = 0; i < 4; i++) {
            due("mend(" + i + ") again", x.mend(i), 3);
            due("over(" + i + ", false, 0)", x.over(i, false, 0), 0);
            due("over(" + i + ", true, 1)", x.over(i, true, 1), 1);
        }
        due("told(7)", x.told(7), 8);
        due("told(13)", x.told(13), 9);
    }

    private static void quarrel() {
        sentence(13, "UNKNOWN");
        for (int a : new int[] {-1, 4, 7, 32, LEAST, MOST}) {
            refused("quarrel(" + a + ", 1, true)", Edges::busy, x -> x.quarrel(a, 1, true), UNKNOWN);
            refused("quarrel(1, " + a + ", true)", Edges::busy, x -> x.quarrel(1, a, true), UNKNOWN);
            refused("quarrel(1, " + a + ", false)", Edges::busy, x -> x.quarrel(1, a, false), UNKNOWN);
        }
        sentence(13, "UNKNOWN: one twice, where two are asked");
        for (int a : new int[] {0, 3}) {
            refused("quarrel(" + a + ", " + a + ", true)", Edges::busy, x -> x.quarrel(a, a, true), UNKNOWN);
            refused("quarrel(" + a + ", " + a + ", false)", Edges::busy, x -> x.quarrel(a, a, false), UNKNOWN);
        }
        sentence(13, "1 they were in FEUD, 0 not");
        StreetTongues x = Edges.townOf(Edges.SEVEN);
        due("quarrel(0, 6, false)", x.quarrel(0, 6, false), 0);
        due("quarrel(0, 6, true)", x.quarrel(0, 6, true), 0);
        due("quarrel(6, 0, true)", x.quarrel(6, 0, true), 1);
        due("told(6)", x.told(6), 1);
        due("quarrel(6, 0, false)", x.quarrel(6, 0, false), 1);
        due("quarrel(0, 6, false)", x.quarrel(0, 6, false), 0);
        due("told(6)", x.told(6), 0);
        due("told(13), what changes nothing counts, too", x.told(13), 5);
        due("quarrel(6, 7, true)", x.quarrel(6, 7, true), UNKNOWN);
    }

    private static void driftRefused() {
        sentence(14, "n times (1 .. 60): OUTSIDE");
        for (int n : new int[] {0, -1, 61, LEAST, MOST}) refused("drift(" + n + ")", Edges::busy, x -> x.drift(n), OUTSIDE);
        sentence(14, "NOT: no TOWN");
        for (int n : new int[] {1, 60}) refused("drift(" + n + ")", Edges::noTown, x -> x.drift(n), NOT);
        StreetTongues gone = Edges.settled();
        gone.town();
        due("drift(1) behind an empty text", gone.drift(1), NOT);
        due("seed(0)", gone.seed(0), 79);
        sentence(14, "OUTSIDE ahead of NOT");
        for (int n : new int[] {0, 61}) refused("drift(" + n + ")", Edges::noTown, x -> x.drift(n), OUTSIDE);
        sentence(14, "if there are two STREETS or more");
        for (String few : new String[] {"t2;", "t2;s0 1;"}) {
            StreetTongues x = Edges.townOf(few);
            x.seed(5);
            due("drift(60)", x.drift(60), 0);
            due("seed(0), nothing is drawn", x.seed(0), 5);
            due("told(13)", x.told(13), 1);
        }
    }

    /** THE SEED after so many DRAWS. */
    private static int seedAfter(int seed, int draws) {
        BigInteger it = BigInteger.valueOf(seed);
        for (int k = 0; k < draws; k++) {
            it = it.multiply(BigInteger.valueOf(1103515245)).add(BigInteger.valueOf(12345)).mod(BigInteger.TWO.pow(31));
        }
        return it.intValueExact();
    }

    private static void driftDraws() {
        sentence(14, "THE SEED: it times 1103515245 and 12345, left over by 2 to the 31");
        due("the seed after one of 0", seedAfter(0, 1), 12345);
        due("the seed after one of the greatest", seedAfter(MOST, 1), 1043980748);
        for (int seed : new int[] {0, 1, 2, 65535, 65536, 1073741823, 1073741824, MOST - 1, MOST}) {
            for (int n : new int[] {1, 2, 60}) {
                StreetTongues x = Edges.townOf("t8;s0 1;s0 1;");
                x.seed(seed);
                due("drift(" + n + ") from " + seed, x.drift(n), 0);
                due("the seed, three DRAWS a day without CORNERS", x.seed(0), seedAfter(seed, 3 * n));
                due("told(10), no WAY", x.told(10), 0);
            }
        }
        sentence(14, "n times (1 .. 60): both ends");
        StreetTongues x = Edges.townOf(Edges.CHAIN);
        x.seed(GOOD_SEED);
        due("drift(60)", x.drift(60), GOOD_DAYS);
        StreetTongues y = Edges.townOf(Edges.CHAIN);
        y.seed(GOOD_SEED);
        for (int k = 0; k < 60; k++) y.drift(1);
        due("drift(1), 60 times", y.told(4), GOOD_DAYS);
        due("the seeds are alike", y.seed(0), x.seed(0));
        due("told(10)", x.told(10), 20);
    }

    /** Days in the small town by the document's words: two streets, the words 0 and 1, one plain corner for a penny. */
    private static final class Days {
        int seed;
        int pence = 0, husbands = 0, feud = 0, shut = 0, sent = 0;
        final int[] heard = new int[2];

        Days(int seed) { this.seed = seed; }

        int draw(int n) {
            seed = seedAfter(seed, 1);
            return seed / 65536 % n;
        }

        void day() {
            int from = draw(2), to = draw(2), w = draw(2);
            if (from != to && shut == 0) {
                pence++;
                sent++;
                heard[to] = w + 1;
                int insult = to == 0 ? 0 : 1;
                if (w == insult) feud = 1;
                else if (feud == 1) feud = 0;
                else husbands++;
            }
            if (draw(8) == 0) {
                draw(1);
                shut = 1 - shut;
            }
        }
    }

    private static void driftOfTwoStreets() {
        sentence(14, "SENT, if these are unlike and there is a WAY; on 0 that is SHUT, if it is OPEN, else OPEN");
        int shut = 0;
        int opened = 0;
        for (int seed = 0; seed < 200; seed++) {
            int n = seed % 3 == 0 ? 60 : 1 + seed % 20;
            StreetTongues x = Edges.townOf(Edges.SMALL);
            Days days = new Days(seed * 10000019);
            x.seed(seed * 10000019);
            for (int k = 0; k < n; k++) {
                int was = days.shut;
                days.day();
                shut += days.shut > was ? 1 : 0;
                opened += days.shut < was ? 1 : 0;
            }
            due("drift(" + n + ")", x.drift(n), days.pence);
            int[] due = {days.pence, days.husbands, days.feud, days.shut};
            for (int what = 4; what < 8; what++) due("told(" + what + ")", x.told(what), due[what - 4]);
            for (int a = 0; a < 2; a++) due("street(" + a + ", 2)", x.street(a, 2), days.heard[a]);
            due("told(10)", x.told(10), Math.min(20, days.sent));
            due("the seed", x.seed(0), days.seed);
        }
        due("some were SHUT, some OPEN again", shut > 20 && opened > 20 ? 1 : 0, 1);
    }

    private static void undoNone() {
        sentence(15, "NOT: none");
        refused("undo()", Edges::noTown, StreetTongues::undo, NOT);
        refused("undo() of a new town", () -> Edges.townOf(Edges.SQUARE), StreetTongues::undo, NOT);
        refused("undo() behind keep()", DoneEdgesTest::justKept, StreetTongues::undo, NOT);
        refused("undo() behind goBack()", DoneEdgesTest::justBack, StreetTongues::undo, NOT);
        sentence(15, "the latest of say(), send(), shut(), mend(), quarrel(), drift(): none else");
        StreetTongues x = Edges.townOf(Edges.SQUARE);
        x.see(0, 1);
        x.write(0, 0);
        x.tear();
        x.seed(4);
        x.feed('t');
        x.over(0, false, 0);
        x.becomes(0, 1, 0);
        due("told(13)", x.told(13), 0);
        due("undo()", x.undo(), NOT);
        sentence(15, "that was not refused");
        x.say(0, false, 9);
        x.say(9, false, 1);
        x.send(0, 0, 1);
        x.shut(9, true);
        x.mend(9);
        x.quarrel(0, 0, true);
        x.drift(0);
        due("told(13)", x.told(13), 0);
        due("undo()", x.undo(), NOT);
    }

    private static StreetTongues justKept() {
        StreetTongues x = Edges.busy();
        x.keep(0);
        return x;
    }

    private static StreetTongues justBack() {
        StreetTongues x = Edges.busy();
        x.goBack(1);
        return x;
    }

    private static void undoSixteen() {
        for (int done : new int[] {1, 15, 16, 17, 33}) {
            sentence(15, "16 at most are kept, the oldest are lost: " + done + " done");
            StreetTongues x = Edges.townOf(PLAIN);
            for (int k = 0; k < done; k++) x.say(0, false, 3);
            int kept = Math.min(16, done);
            due("told(13)", x.told(13), kept);
            for (int k = 1; k <= kept; k++) {
                due("undo()", x.undo(), kept - k);
                due("told(4)", x.told(4), 5 * (done - k));
                due("told(10)", x.told(10), Math.min(20, done - k));
            }
            due("undo()", x.undo(), NOT);
            due("told(4)", x.told(4), 5 * (done - kept));
            due("told(13)", x.told(13), 0);
        }
    }

    private static void undoAround() {
        sentence(15, "16 at most are kept: done and undone in turn, many times around");
        StreetTongues x = Edges.townOf(PLAIN);
        Deque<Integer> ahead = new ArrayDeque<>();
        int pence = 0;
        for (int round = 0; round < 24; round++) {
            for (int k = 0; k < 3 + round % 7; k++) {
                ahead.push(pence);
                if (ahead.size() > 16) ahead.removeLast();
                x.say(0, k % 2 == 0, 4);
                pence += 5;
            }
            for (int k = 0; k < 2 + round % 5; k++) {
                boolean some = !ahead.isEmpty();
                if (some) pence = ahead.pop();
                due("undo()", x.undo(), some ? ahead.size() : NOT);
            }
            due("told(4)", x.told(4), pence);
            due("told(13)", x.told(13), ahead.size());
        }
    }

    private static void undoLeaves() {
        sentence(15, "all of section 2 is as ahead of it");
        StreetTongues x = Edges.settled();
        String ahead = Edges.affairs(x);
        x.drift(60);
        due("undo()", x.undo(), 5);
        Edges.alike("undo() of drift(60)", Edges.affairs(x), ahead);
        sentence(15, "THE SEED stays");
        StreetTongues y = Edges.settled();
        y.drift(60);
        int seed = Edges.seedOf(y);
        due("undo()", y.undo(), 5);
        due("the seed", y.seed(0), seed);
        due("it is another than ahead of drift()", seed == 79 ? 1 : 0, 0);
        sentence(15, "what is SEEN, THE BOOK, IMAGES, THE TEXT stay");
        x.say(1, false, 1);
        x.see(1, 1);
        x.write(2, 0);
        x.feed('t');
        due("undo()", x.undo(), 5);
        due("told(11)", x.told(11), 2);
        due("told(12)", x.told(12), 2);
        due("told(3)", x.told(3), 1);
        due("goBack(1)", x.goBack(1), 1);
        sentence(15, "what was lost of THE LOG comes back");
        StreetTongues full = Edges.full();
        int oldest = full.logged(19, 2);
        full.say(0, true, 2222);
        due("undo()", full.undo(), 15);
        due("logged(19, 2)", full.logged(19, 2), oldest);
        due("told(10)", full.told(10), 20);
    }
}
