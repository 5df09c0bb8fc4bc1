import java.util.function.Supplier;
import java.util.function.ToIntFunction;

/** The edges of promises 1 to 8, and of section 1: the town and what is asked of it. */
public final class TownEdgesTest {
    private static final int NONE = Edges.NONE, UNKNOWN = Edges.UNKNOWN, OUTSIDE = Edges.OUTSIDE, NOT = Edges.NOT, FULL = Edges.FULL;
    private static final int LEAST = Edges.LEAST, MOST = Edges.MOST;
    private static final String TWO = "t2;s0 1;s1 0;";

    public static void main(String[] args) {
        newObject();
        feed();
        howManyWords();
        streetsOfTheText();
        cornersOfTheText();
        numbersOfTheText();
        wordsAndBlanksOfTheText();
        theEndOfTheText();
        leastOfTheFaults();
        emptyTexts();
        townAnew();
        fault();
        told();
        toldIsFull();
        street();
        corner();
        logged();
        Edges.finish(1, 8);
    }

    private static void due(String call, int got, int want) { Edges.due(call, got, want); }

    private static void sentence(int promise, String words) { Edges.sentence(promise, words); }

    private static void refused(String call, Supplier<StreetTongues> scene, ToIntFunction<StreetTongues> act, int want) {
        Edges.refused(call, scene, act, want);
    }

    /** A text on a new object: town() and then fault(). */
    private static void text(String text, int town, int fault) {
        StreetTongues x = Edges.tell(new StreetTongues(), text);
        due("feeding '" + text + "', told(3)", x.told(3), text.length());
        due("town() of '" + text + "'", x.town(), town);
        due("fault() of '" + text + "'", x.fault(), fault);
        due("told(3) behind '" + text + "'", x.told(3), 0);
        if (town < 0) due("told(0) behind '" + text + "'", x.told(0), 0);
    }

    private static void newObject() {
        sentence(1, "No TOWN: no STREET, CORNER, WORD");
        Supplier<StreetTongues> none = Edges::noTown;
        refused("street(0, 0)", none, x -> x.street(0, 0), UNKNOWN);
        refused("corner(0, 0)", none, x -> x.corner(0, 0), UNKNOWN);
        refused("say(0, false, 1)", none, x -> x.say(0, false, 1), UNKNOWN);
        refused("send(0, 1, 1)", none, x -> x.send(0, 1, 1), UNKNOWN);
        refused("shut(0, true)", none, x -> x.shut(0, true), UNKNOWN);
        refused("mend(0)", none, x -> x.mend(0), UNKNOWN);
        refused("quarrel(0, 1, true)", none, x -> x.quarrel(0, 1, true), UNKNOWN);
        refused("over(0, false, 0)", none, x -> x.over(0, false, 0), UNKNOWN);
        refused("becomes(0, 1, 0)", none, x -> x.becomes(0, 1, 0), UNKNOWN);
        refused("way(0, 1, 0)", none, x -> x.way(0, 1, 0), UNKNOWN);
        refused("through(0, 0, 0, 0, 0)", none, x -> x.through(0, 0, 0, 0, 0), UNKNOWN);
        refused("code(0, 1, 0)", none, x -> x.code(0, 1, 0), UNKNOWN);
        refused("origin(0, 0, 0, -1)", none, x -> x.origin(0, 0, 0, NONE), UNKNOWN);
        refused("ring(0, 0, 0)", none, x -> x.ring(0, 0, 0), UNKNOWN);
        refused("cut(0, 1, 0)", none, x -> x.cut(0, 1, 0), UNKNOWN);
        refused("walk(0)", none, x -> x.walk(0), UNKNOWN);
        refused("see(0, 0)", none, x -> x.see(0, 0), UNKNOWN);
        refused("write(0, 0)", none, x -> x.write(0, 0), UNKNOWN);
        sentence(1, "No TOWN: what is not now");
        refused("drift(1)", none, x -> x.drift(1), NOT);
        refused("undo()", none, StreetTongues::undo, NOT);
        refused("more(0)", none, x -> x.more(0), NOT);
        refused("more(1)", none, x -> x.more(1), NOT);
        refused("goBack(0)", none, x -> x.goBack(0), NOT);
        refused("goBack(1)", none, x -> x.goBack(1), NOT);
        sentence(1, "No TOWN: all is empty");
        StreetTongues x = new StreetTongues();
        for (int what = 0; what < 14; what++) due("told(" + what + ")", x.told(what), what == 9 ? NONE : 0);
        due("fault()", x.fault(), NONE);
        for (int what = 0; what < 4; what++) due("logged(0, " + what + ")", x.logged(0, what), NONE);
        due("slips(0)", x.slips(0), 0);
        due("slips(1)", x.slips(1), NONE);
        due("tryNext()", x.tryNext(), NONE);
        due("judge()", x.judge(), NONE);
        due("tear()", x.tear(), 0);
        due("seed(0)", x.seed(0), 0);
        due("holds(0, 0)", x.holds(0, 0), 1000000000);
    }

    private static void feed() {
        sentence(2, "One letter (a number 0 .. 255)");
        StreetTongues x = new StreetTongues();
        due("feed(0)", x.feed(0), 1);
        due("feed(255)", x.feed(255), 2);
        sentence(2, "OUTSIDE");
        for (int letter : new int[] {-1, 256, LEAST, MOST}) {
            refused("feed(" + letter + ")", Edges::busy, y -> y.feed(letter), OUTSIDE);
            refused("feed(" + letter + ") first of all", Edges::noTown, y -> y.feed(letter), OUTSIDE);
        }
        sentence(2, "how many it has; FULL (240)");
        x = new StreetTongues();
        for (int k = 1; k <= 240; k++) due("feed(32)", x.feed(32), k);
        due("feed(32), the 241st", x.feed(32), FULL);
        due("told(3)", x.told(3), 240);
        refused("feed(';')", TownEdgesTest::fullText, y -> y.feed(';'), FULL);
        refused("feed(' ')", TownEdgesTest::fullText, y -> y.feed(' '), FULL);
        sentence(2, "OUTSIDE ahead of FULL");
        refused("feed(-1)", TownEdgesTest::fullText, y -> y.feed(-1), OUTSIDE);
        refused("feed(256)", TownEdgesTest::fullText, y -> y.feed(256), OUTSIDE);
        sentence(2, "behind THE TEXT, that is empty behind town()");
        due("town()", x.town(), 0);
        due("feed(116)", x.feed(116), 1);
        due("town(), a fault", x.town(), -11);
        due("feed(116)", x.feed(116), 1);
    }

    /** A text of 240 letters that waits, with its fault at the end. */
    private static StreetTongues fullText() {
        return Edges.tell(Edges.townOf(Edges.SMALL), "t3;s2 1;" + Edges.blanks(231) + "s");
    }

    private static void howManyWords() {
        sentence(3, "N 2 .. 8");
        text("t0;", -12, 1);
        text("t1;", -12, 1);
        text("t2;", 0, NONE);
        text("t8;", 0, NONE);
        text("t9;", -12, 1);
        text("t10;", -12, 1);
        text("t999;", -12, 1);
        sentence(3, "N first");
        text("s0 1;", -11, 0);
        text("i0 1 0 0 0 0;", -11, 0);
        text("  s0 1;t2;", -11, 2);
        sentence(3, "N once");
        text("t2;t2;", -13, 3);
        text("t2;s0 1;t", -13, 8);
        text(TWO + "i0 1 0 0 0 0;  t2;", -13, 28);
    }

    private static void streetsOfTheText() {
        sentence(3, "7 STREETS at most");
        text("t2;s0 1;", 1, NONE);
        text(Edges.SEVEN, 7, NONE);
        text(Edges.SEVEN + "s0 1;", -13, 38);
        text(Edges.SEVEN + "  s", -13, 40);
        sentence(3, "F, Y WORDS that there are");
        text("t2;s0 1;", 1, NONE);
        text("t2;s1 0;", 1, NONE);
        text("t2;s2 0;", -12, 4);
        text("t2;s0 2;", -12, 6);
        text("t8;s7 0;", 1, NONE);
        text("t8;s0 7;", 1, NONE);
        text("t8;s8 0;", -12, 4);
        text("t8;s0 8;", -12, 6);
        sentence(3, "F, Y unlike WORDS");
        text("t2;s0 0;", -14, 6);
        text("t2;s1 1;", -14, 6);
        text("t8;s7 7;", -14, 6);
        text("t8;s7  007;", -14, 7);
        text("t8;s7 6;s6 6;", -14, 11);
    }

    private static void cornersOfTheText() {
        sentence(3, "10 CORNERS at most");
        text(Edges.TEN, 7, NONE);
        text(Edges.TEN + "i0 1 3 0 0 0;", -13, Edges.TEN.length());
        text(Edges.TEN + "i", -13, Edges.TEN.length());
        sentence(3, "STREETS told ahead");
        text("t2;i0 1 0 0 0 0;", -12, 4);
        text("t2;s0 1;i0 1 0 0 0 0;s0 1;", -12, 11);
        text(TWO + "i2 0 0 0 0 0;s0 1;", -12, 14);
        text(TWO + "i0 2 0 0 0 0;", -12, 16);
        text(TWO + "i0 1 0 0 0 0;", 2, NONE);
        text(TWO + "i1 0 0 0 0 0;", 2, NONE);
        text(Edges.SEVEN + "i6 0 0 0 0 0;", 7, NONE);
        text(Edges.SEVEN + "i7 0 0 0 0 0;", -12, 39);
        text(Edges.SEVEN + "i0 7 0 0 0 0;", -12, 41);
        sentence(3, "CORNERS between unlike STREETS");
        text(TWO + "i0 0 0 0 0 0;", -14, 16);
        text(TWO + "i1 1 0 0 0 0;", -14, 16);
        text(TWO + "i01   001 0 0 0 0;", -14, 19);
        sentence(3, "no two between the same");
        text(TWO + "i0 1 0 0 0 0;i0 1 0 0 0 0;", -14, 29);
        text(TWO + "i0 1 0 0 0 0;i1 0 0 0 0 0;", -14, 29);
        text(Edges.SEVEN + "i6 5 0 0 0 0;i4 5 0 0 0 0;i6 4 0 0 0 0;", 7, NONE);
        text(Edges.SEVEN + "i6 5 0 0 0 0;i4 5 0 0 0 0;i5 6 0 0 0 0;", -14, 67);
        sentence(3, "SORT S, 0 .. 3; WORDS K, L; PRICE P, 0 .. 99");
        text(TWO + "i0 1 3 1 1 99;", 2, NONE);
        text(TWO + "i0 1 4 1 1 99;", -12, 18);
        text(TWO + "i0 1 3 2 1 99;", -12, 20);
        text(TWO + "i0 1 3 1 2 99;", -12, 22);
        text(TWO + "i0 1 3 1 1 100;", -12, 24);
        text(TWO + "i0 1 3 1 1 999;", -12, 24);
        text("t8;s0 1;s1 0;i0 1 2 7 7 0;", 2, NONE);
        text("t8;s0 1;s1 0;i0 1 2 8 7 0;", -12, 20);
        text("t8;s0 1;s1 0;i0 1 2 7 8 0;", -12, 22);
        sentence(3, "NUMBERS have no sign");
        text("t-2;", -11, 1);
        text("t+2;", -11, 1);
        text(TWO + "i0 1 3 1 1 -1;", -11, 24);
    }

    private static void numbersOfTheText() {
        sentence(3, "NUMBERS have one to three figures");
        text("t;", -11, 1);
        text("t2;", 0, NONE);
        text("t02;", 0, NONE);
        text("t002;", 0, NONE);
        text("t0002;", -12, 1);
        text("t00000000002;", -12, 1);
        text("t4294967298;", -12, 1);
        text("t18446744073709551618;", -12, 1);
        text("t2;s000 001;", 1, NONE);
        text("t2;s0000 001;", -12, 4);
        text("t2;s000 0001;", -12, 8);
        text(TWO + "i000 001 003 001 001 099;", 2, NONE);
        text(TWO + "i000 001 003 001 001 0099;", -12, 34);
        sentence(3, "two NUMBERS side by side need one (a blank)");
        text("t2;s01;", -11, 6);
        text("t2;s0 1;", 1, NONE);
        text("t2;s0   1;", 1, NONE);
        text("t2;s10;", -12, 4);
        text(TWO + "i01 0 3 0 0;", -11, 24);
        sentence(3, "blanks may stand anywhere but within NUMBERS");
        text("  t  2  ;  s  0  1  ;  ", 1, NONE);
        text("t 2;", 0, NONE);
        text("t0 2;", -12, 1);
        text("t2 2;", -11, 3);
        text(TWO + "i0 1 3 1 1 9 9;", -11, 26);
        sentence(3, "blanks (32): another letter is none");
        text("t\t2;", -11, 1);
        text("t2;\n", -11, 3);
        text("\u00a0t2;", -11, 0);
        text("t2;\u0000", -11, 3);
        text("t2;s0\u00ff1;", -11, 5);
        sentence(3, "NUMBERS have figures 0 to 9 alone");
        text("t/;", -11, 1);
        text("t:;", -11, 1);
        text("t2/;", -11, 2);
        text("t2:;", -11, 2);
    }

    private static void wordsAndBlanksOfTheText() {
        sentence(3, "1 it cannot stand there (a letter that is no word)");
        for (String odd : new String[] {"x", ";", "2", "T", "S", "I", "r", "u", "h", "j", "\u0000", "\u00ff"}) {
            text(odd, -11, 0);
            text("t2;" + odd, -11, 3);
            text("t2;s0 1; " + odd, -11, 9);
        }
        sentence(3, "1 it cannot stand there: a word is one letter");
        text("tt2;", -11, 1);
        text("t2;ss0 1;", -11, 4);
        text(TWO + "ii0 1 0 0 0 0;", -11, 14);
        sentence(3, "1 it cannot stand there: too few NUMBERS");
        text("t;", -11, 1);
        text("t2;s;", -11, 4);
        text("t2;s0;", -11, 5);
        text(TWO + "i;", -11, 14);
        text(TWO + "i0;", -11, 15);
        text(TWO + "i0 1;", -11, 17);
        text(TWO + "i0 1 0;", -11, 19);
        text(TWO + "i0 1 0 0;", -11, 21);
        text(TWO + "i0 1 0 0 0;", -11, 23);
        text(TWO + "i0 1 0 0 0 0;", 2, NONE);
        sentence(3, "1 it cannot stand there: too many NUMBERS");
        text("t2 2;", -11, 3);
        text("t2;s0 1 1;", -11, 8);
        text(TWO + "i0 1 0 0 0 0 0;", -11, 26);
        sentence(3, "1 it cannot stand there: ';' is wanting, or twice");
        text("t2 s0 1;", -11, 3);
        text("t2;s0 1s0 1;", -11, 7);
        text("t2;;", -11, 3);
        text("t2;s0 1;;", -11, 8);
        text(";t2;", -11, 0);
    }

    private static void theEndOfTheText() {
        sentence(3, "the end at the text's length");
        String whole = TWO + "i0 1 0 0 0 0;";
        for (int length = 1; length < whole.length(); length++) {
            boolean atEnd = whole.charAt(length - 1) == ';';
            int streets = length >= 13 ? 2 : length >= 8 ? 1 : 0;
            text(whole.substring(0, length), atEnd ? streets : -11, atEnd ? NONE : length);
        }
        text("t2  ", -11, 4);
        text("t2;s0 1   ", -11, 10);
        sentence(3, "240 letters at most");
        text(Edges.SQUARE + Edges.blanks(240 - Edges.SQUARE.length()), 4, NONE);
        text(Edges.blanks(240 - Edges.SQUARE.length()) + Edges.SQUARE, 4, NONE);
        text("t2;" + Edges.blanks(236) + "s", -11, 240);
        text("t2;" + Edges.blanks(236) + "x", -11, 239);
        text("t2;" + Edges.blanks(236) + "t", -13, 239);
        text("t2;s0" + Edges.blanks(234) + "0", -14, 239);
        text("t" + "0".repeat(239), -12, 1);
    }

    private static void leastOfTheFaults() {
        sentence(3, "at the first letter that has one");
        text("t2;s5 x", -12, 4);
        text("t2;sx 5", -11, 4);
        text("t9x", -12, 1);
        text("t9", -12, 1);
        text("t2;s1 1x", -14, 6);
        text("t2;s1 1", -14, 6);
        text(TWO + "i0 0 9", -14, 16);
        text(TWO + "i5 5 0 0 0 0;", -12, 14);
        text("t2;t9;s0 0;", -13, 3);
        sentence(3, "of these the least: 1 ahead of 3");
        text("t2t", -11, 2);
        text("t2;s0 t", -11, 6);
        text(Edges.SEVEN.substring(0, 37) + "s0 1;", -11, 37);
        text(Edges.TEN.substring(0, Edges.TEN.length() - 1) + "i0 1 3 0 0 0;", -11, Edges.TEN.length() - 1);
        sentence(3, "of these the least: 2 ahead of 4");
        text("t2;s1 0001;", -12, 6);
        text(TWO + "i0 0000 0 0 0 0;", -12, 16);
        text(TWO + "i0 1 0 0 0 0;i0 0001 0 0 0 0;", -12, 29);
    }

    private static void emptyTexts() {
        sentence(3, "An empty text (or one of blanks alone): no TOWN");
        for (int length : new int[] {0, 1, 239, 240}) text(Edges.blanks(length), 0, NONE);
        for (int length : new int[] {0, 1, 240}) {
            StreetTongues x = Edges.tell(Edges.settled(), Edges.blanks(length));
            due("town() of " + length + " blanks", x.town(), 0);
            StreetTongues y = new StreetTongues();
            y.seed(79);
            Edges.alike("town() of " + length + " blanks", Edges.all(x), Edges.all(y));
        }
        sentence(3, "a TOWN without STREETS is one");
        StreetTongues x = Edges.townOf("t2;");
        due("drift(1)", x.drift(1), 0);
        due("more(0)", x.more(0), NONE);
        due("slips(0)", x.slips(0), 5);
        due("see(1, 0)", x.see(1, 0), 1);
        due("street(0, 0)", x.street(0, 0), UNKNOWN);
        due("walk(0)", x.walk(0), UNKNOWN);
    }

    private static void townAnew() {
        sentence(3, "becomes THE TOWN: all is as at first, THE SEED stays");
        StreetTongues x = Edges.tell(Edges.settled(), Edges.SQUARE);
        due("town()", x.town(), 4);
        StreetTongues y = Edges.townOf(Edges.SQUARE);
        y.seed(79);
        Edges.alike("town()", Edges.all(x), Edges.all(y));
        x = Edges.tell(Edges.full(), Edges.SMALL);
        due("town()", x.town(), 2);
        Edges.alike("town() of a full one", Edges.all(x), Edges.all(Edges.townOf(Edges.SMALL)));
        sentence(3, "becomes THE TOWN: a lesser one keeps nothing of a greater");
        x = Edges.tell(Edges.townOf(Edges.TEN), Edges.SMALL);
        due("town()", x.town(), 2);
        Edges.alike("town()", Edges.all(x), Edges.all(Edges.townOf(Edges.SMALL)));
        x = Edges.tell(Edges.townOf(Edges.TEN), "t2;");
        due("town()", x.town(), 0);
        due("corner(0, 0)", x.corner(0, 0), UNKNOWN);
        lostCorner();
        sentence(3, "THE TEXT (it is empty then): nothing is read of an earlier one");
        for (int length : new int[] {1, 2, 4, 5, 6, 7}) {
            x = Edges.tell(Edges.townOf(Edges.SQUARE), Edges.SQUARE.substring(0, length));
            due("town() of " + length + " letters", x.town(), -11);
            due("fault()", x.fault(), length);
            due("town() of none", x.town(), 0);
        }
        x = Edges.tell(new StreetTongues(), "t2;s0 0;");
        due("town()", x.town(), -14);
        due("town() of what is fed behind a fault", Edges.tell(x, "t2;s0 1").town(), -11);
        due("fault()", x.fault(), 7);
        sentence(3, "IMAGES, what could be undone are gone");
        x = Edges.settled();
        due("told(13)", x.told(13), 5);
        Edges.tell(x, "t2;").town();
        due("undo()", x.undo(), NOT);
        due("goBack(0)", x.goBack(0), NOT);
        due("goBack(1)", x.goBack(1), NOT);
        sentence(3, "-10 less the number of its FAULT (all else is as it was)");
        String[] faulty = {"x", "t9;", "t2;t", "t2;s0 0;"};
        for (int number = 1; number <= 4; number++) {
            x = Edges.tell(Edges.settled(), faulty[number - 1]);
            due("town()", x.town(), -10 - number);
            int at = x.fault();
            Edges.tell(x, "x");
            y = Edges.tell(Edges.settled(), "x");
            Edges.alike("a faulty town()", Edges.all(x).replace(" | " + at + " 79", " | -1 79"), Edges.all(y));
        }
    }

    /** Of three streets in a row the last has lost its corner with the new town. */
    private static void lostCorner() {
        StreetTongues x = Edges.townOf("t8;s0 1;s0 1;s0 1;i0 1 2 1 0 5;i1 2 2 1 0 5;");
        due("town()", Edges.tell(x, "t8;s0 1;s0 1;s0 1;i0 1 3 0 0 5;").town(), 3);
        due("told(8)", x.told(8), 255);
        due("way(0, 2, 0)", x.way(0, 2, 0), NONE);
        due("through(0, 0, 2, 1, 0)", x.through(0, 0, 2, 1, 0), NONE);
        due("ring(2, 0, 0)", x.ring(2, 0, 0), NONE);
        due("origin(2, 0, 1, -1)", x.origin(2, 0, 1, NONE), 0);
        due("cut(0, 2, 0)", x.cut(0, 2, 0), 0);
        due("walk(0)", x.walk(0), NONE);
        due("more(0)", x.more(0), 2);
        due("mend(1)", x.mend(1), UNKNOWN);
    }

    private static void fault() {
        sentence(4, "NONE");
        StreetTongues x = new StreetTongues();
        due("fault() at first", x.fault(), NONE);
        x.feed('x');
        due("fault() ahead of town()", x.fault(), NONE);
        sentence(4, "The letter of the FAULT of the latest town()");
        x.town();
        due("fault(), the first letter", x.fault(), 0);
        x.feed('t');
        due("fault(), whatever is fed", x.fault(), 0);
        due("town(), it ends too early", x.town(), -11);
        due("fault(), at the text's length", x.fault(), 1);
        Edges.tell(x, Edges.blanks(240)).feed('x');
        due("town() of blanks", x.town(), 0);
        due("fault() behind blanks", x.fault(), NONE);
        Edges.tell(x, "t2").town();
        due("fault()", x.fault(), 2);
        Edges.tell(x, "t2;").town();
        due("fault() behind a TOWN that stands", x.fault(), NONE);
        sentence(4, "the last letter that there can be");
        StreetTongues y = Edges.tell(new StreetTongues(), Edges.blanks(239) + "t");
        due("town()", y.town(), -11);
        due("fault()", y.fault(), 240);
        due("town() of nothing", y.town(), 0);
        due("fault()", y.fault(), NONE);
    }

    private static void told() {
        sentence(5, "OUTSIDE");
        for (int what : new int[] {-1, 14, LEAST, MOST}) {
            refused("told(" + what + ")", Edges::busy, x -> x.told(what), OUTSIDE);
            refused("told(" + what + ")", Edges::noTown, x -> x.told(what), OUTSIDE);
        }
        sentence(5, "0 N at both ends");
        due("told(0)", Edges.townOf("t2;").told(0), 2);
        due("told(0)", Edges.townOf("t8;").told(0), 8);
        sentence(5, "8 EVERYWHERE: none, all, SHUT ones count");
        due("told(8), none", Edges.townOf("t8;s0 1;s0 1;i0 1 2 1 0 0;").told(8), 0);
        due("told(8), all, no CORNER", Edges.townOf("t8;s0 1;s0 1;").told(8), 255);
        due("told(8), all, by 0 on", Edges.townOf("t8;s0 1;s0 1;i0 1 2 0 5 0;").told(8), 255);
        due("told(8), all, K like L", Edges.townOf("t8;s0 1;s0 1;i0 1 0 5 5 0;").told(8), 255);
        due("told(8), all but K", Edges.townOf("t8;s0 1;s0 1;i0 1 1 7 0 0;").told(8), 127);
        due("told(8), all but K and L", Edges.townOf("t8;s0 1;s0 1;i0 1 0 7 0 0;").told(8), 126);
        StreetTongues x = Edges.townOf("t8;s0 1;s0 1;i0 1 2 1 0 0;");
        x.shut(0, true);
        due("told(8), none, SHUT", x.told(8), 0);
        x.mend(0);
        due("told(8), all, MENDED", x.told(8), 255);
        blame();
    }

    private static void blame() {
        sentence(5, "9 BLAME: NONE: there is no such entry");
        StreetTongues x = Edges.townOf("t8;s7 0;s0 7;i0 1 3 0 0 0;");
        due("told(9), THE LOG is empty", x.told(9), NONE);
        x.say(0, false, 8);
        x.say(0, true, 1);
        due("told(9), of others the INSULT", x.told(9), NONE);
        sentence(5, "9 BLAME: the last WORD, the first WORD");
        x.say(0, true, 8);
        due("told(9), the last WORD", x.told(9), 7);
        x.say(0, false, 1);
        due("told(9), of like ones the least", x.told(9), 0);
        x.say(0, true, 2348);
        due("told(9), in most", x.told(9), 7);
        sentence(5, "9 BLAME: entries that have it in what was HEARD, not in what was SAID");
        StreetTongues turn = Edges.townOf("t8;s7 0;s0 7;i0 1 1 0 5 0;");
        turn.say(0, false, 1);
        due("told(9), 0 became 5", turn.told(9), NONE);
        turn = Edges.townOf("t8;s7 0;s0 7;i0 1 2 1 0 0;");
        turn.say(0, false, 8);
        due("told(9), 7 became 0", turn.told(9), 0);
        sentence(5, "9 BLAME: entries that THE LOG has lost do not count");
        for (int k = 0; k < 17; k++) x.say(0, false, 3);
        due("told(9), 2 entries to 1", x.told(9), 7);
        x.say(0, false, 3);
        due("told(9), 1 entry to 1", x.told(9), 0);
        x.say(0, false, 3);
        due("told(9), 1 entry to none", x.told(9), 7);
        x.say(0, false, 3);
        due("told(9), none", x.told(9), NONE);
    }

    private static void toldIsFull() {
        sentence(5, "1 STREETS, 2 CORNERS, 6 FEUDS, 7 SHUT: all that there can be");
        StreetTongues x = Edges.townOf(Edges.TEN);
        due("told(1)", x.told(1), 7);
        due("told(2)", x.told(2), 10);
        for (int i = 0; i < 10; i++) {
            x.shut(i, true);
            due("told(7)", x.told(7), (2 << i) - 1);
        }
        int feuds = 0;
        for (int a = 0; a < 7; a++) {
            for (int b = a + 1; b < 7; b++) {
                x.quarrel(b, a, true);
                due("told(6)", x.told(6), ++feuds);
            }
        }
        due("told(6), of seven", x.told(6), 21);
        due("street(0, 3)", x.street(0, 3), 126);
        due("street(3, 3)", x.street(3, 3), 119);
        due("street(6, 3)", x.street(6, 3), 63);
        sentence(5, "3 letters of THE TEXT");
        due("told(3)", Edges.tell(x, Edges.blanks(240)).told(3), 240);
        sentence(5, "10 how many THE LOG has, 11 SEEN, 12 THE BOOK, 13 can be undone: all that there can be");
        x = Edges.full();
        due("told(10)", x.told(10), 20);
        due("told(11)", x.told(11), 6);
        due("told(12)", x.told(12), 15);
        due("told(13)", x.told(13), 16);
    }

    private static void street() {
        sentence(6, "UNKNOWN");
        StreetTongues x = Edges.townOf(Edges.TEN);
        due("street(0, 0)", x.street(0, 0), 0);
        due("street(6, 1)", x.street(6, 1), 1);
        due("street(7, 0)", x.street(7, 0), UNKNOWN);
        due("street(0, 0), one street", Edges.townOf("t2;s1 0;").street(0, 0), 1);
        due("street(1, 0), one street", Edges.townOf("t2;s1 0;").street(1, 0), UNKNOWN);
        for (int a : new int[] {-1, 4, 7, LEAST, MOST}) refused("street(" + a + ", 0)", Edges::busy, y -> y.street(a, 0), UNKNOWN);
        sentence(6, "OUTSIDE");
        for (int what : new int[] {-1, 4, LEAST, MOST}) refused("street(3, " + what + ")", Edges::busy, y -> y.street(3, what), OUTSIDE);
        sentence(6, "UNKNOWN ahead of OUTSIDE");
        for (int what : new int[] {-1, 4}) refused("street(4, " + what + ")", Edges::busy, y -> y.street(4, what), UNKNOWN);
        sentence(6, "what it HEARD latest (0 at first)");
        x = Edges.townOf("t8;s0 1;s0 1;i0 1 3 0 0 0;");
        due("street(1, 2)", x.street(1, 2), 0);
        x.say(0, false, 8888);
        due("street(1, 2), the greatest", x.street(1, 2), 8888);
        due("street(0, 2), it said it", x.street(0, 2), 0);
        x.say(0, false, 1);
        due("street(1, 2), the least", x.street(1, 2), 1);
        sentence(6, "with whom it is in FEUD: none at first");
        due("street(0, 3)", Edges.townOf(Edges.SMALL).street(0, 3), 0);
    }

    private static void corner() {
        sentence(7, "UNKNOWN");
        StreetTongues x = Edges.townOf(Edges.TEN);
        due("corner(0, 0)", x.corner(0, 0), 5);
        due("corner(9, 0)", x.corner(9, 0), 6);
        due("corner(9, 1)", x.corner(9, 1), 4);
        due("corner(10, 0)", x.corner(10, 0), UNKNOWN);
        for (int i : new int[] {-1, 4, 10, LEAST, MOST}) refused("corner(" + i + ", 0)", Edges::busy, y -> y.corner(i, 0), UNKNOWN);
        sentence(7, "OUTSIDE");
        for (int what : new int[] {-1, 7, LEAST, MOST}) refused("corner(3, " + what + ")", Edges::busy, y -> y.corner(3, what), OUTSIDE);
        sentence(7, "UNKNOWN ahead of OUTSIDE");
        for (int what : new int[] {-1, 7}) refused("corner(4, " + what + ")", Edges::busy, y -> y.corner(4, what), UNKNOWN);
        sentence(7, "0 A, 1 B, SORT, K, L, PRICE at both ends");
        x = Edges.townOf("t8;s0 1;s0 1;s0 1;i2 0 3 7 7 99;i0 1 0 0 0 0;");
        int[][] due = {{2, 0, 3, 7, 7, 99, 0}, {0, 1, 0, 0, 0, 0, 0}};
        for (int i = 0; i < 2; i++) for (int what = 0; what < 7; what++) due("corner(" + i + ", " + what + ")", x.corner(i, what), due[i][what]);
        sentence(7, "SORT now; 1 it is SHUT, 0 not");
        x.mend(1);
        x.shut(1, true);
        due("corner(1, 2)", x.corner(1, 2), 3);
        due("corner(1, 6)", x.corner(1, 6), 1);
        due("corner(0, 6)", x.corner(0, 6), 0);
        x.shut(1, false);
        due("corner(1, 6)", x.corner(1, 6), 0);
    }

    private static void logged() {
        sentence(8, "NONE");
        StreetTongues x = Edges.townOf("t8;s0 7;s0 7;i0 1 2 7 0 0;");
        for (int i : new int[] {0, 1, 19, 20, -1, LEAST, MOST}) due("logged(" + i + ", 0), empty", x.logged(i, 0), NONE);
        for (int k = 1; k <= 19; k++) {
            x.say(0, false, 10 * (1 + k / 8) + 1 + k % 8);
            due("logged(0, 2), the latest", x.logged(0, 2), 10 * (1 + k / 8) + 1 + k % 8);
            due("logged(" + (k - 1) + ", 2), the first", x.logged(k - 1, 2), 12);
            due("logged(" + k + ", 2)", x.logged(k, 2), NONE);
        }
        sentence(8, "THE LOG keeps the latest 20");
        x.say(0, true, 8888);
        due("logged(19, 2), the first of 20", x.logged(19, 2), 12);
        due("logged(20, 2)", x.logged(20, 2), NONE);
        due("logged(0, 0)", x.logged(0, 0), 1);
        due("logged(0, 1)", x.logged(0, 1), 0);
        due("logged(0, 3)", x.logged(0, 3), 1111);
        x.say(0, false, 1111);
        due("logged(19, 2), the first is lost", x.logged(19, 2), 13);
        due("logged(20, 2)", x.logged(20, 2), NONE);
        due("logged(1, 3)", x.logged(1, 3), 1111);
        due("logged(0, 3)", x.logged(0, 3), 8888);
        due("told(10)", x.told(10), 20);
        for (int i : new int[] {-1, LEAST, MOST}) due("logged(" + i + ", 0), full", x.logged(i, 0), NONE);
        sentence(8, "OUTSIDE (what)");
        for (int what : new int[] {-1, 4, LEAST, MOST}) {
            refused("logged(0, " + what + ")", Edges::busy, y -> y.logged(0, what), OUTSIDE);
            refused("logged(0, " + what + "), empty", Edges::noTown, y -> y.logged(0, what), OUTSIDE);
            refused("logged(20, " + what + ")", Edges::full, y -> y.logged(20, what), OUTSIDE);
            refused("logged(-1, " + what + ")", Edges::full, y -> y.logged(-1, what), OUTSIDE);
        }
    }
}
