/** Promise by promise: what is ordinary, the edges that the document names, and what is refused. */
public final class PromiseTest {
    private static final int NONE = -1, UNKNOWN = -1000000001, OUTSIDE = -1000000002, NOT = -1000000003, FULL = -1000000004;
    private static final int LEAST = Integer.MIN_VALUE, MOST = Integer.MAX_VALUE;
    /** Four streets: 0 and 1 swap words 0 and 1; from 1 to 2 words move on by 1; 0 and 2 turn 3 to 2; 3 and 2 are plain. */
    private static final String SQUARE =
        "t4;s0 1;s1 2;s2 0;s3 0;i0 1 0 0 1 1;i1 2 2 1 0 2;i0 2 1 3 2 9;i3 2 3 0 0 1;";
    private static int checked = 0;
    private static int wrong = 0;
    private static int promise = 0;

    public static void main(String[] args) {
        newObject();
        feeding();
        towns();
        faults();
        townsAnew();
        tellings();
        streets();
        corners();
        logs();
        sayings();
        sendings();
        sendingsOfLikeWays();
        shutting();
        mending();
        quarrels();
        drifting();
        undoing();
        putOver();
        becoming();
        ways();
        throughs();
        codes();
        origins();
        rings();
        mores();
        cuts();
        walks();
        odds();
        seeing();
        slipping();
        trying();
        writing();
        tearing();
        judging();
        seeds();
        images();
        System.out.println(wrong == 0 ? checked + " answers are as due" : wrong + " of " + checked + " answers are not as due");
        if (wrong != 0) System.exit(1);
    }

    private static void due(String call, int got, int want) {
        checked++;
        if (got != want) {
            wrong++;
            System.out.println("promise " + promise + ": " + call + " answered " + got + ", due is " + want);
        }
    }

    private static void alike(String call, String got, String want) {
        checked++;
        if (!got.equals(want)) {
            wrong++;
            System.out.println("promise " + promise + ": " + call + " left " + got + ", due is " + want);
        }
    }

    private static StreetTongues tell(StreetTongues x, String text) {
        for (char c : text.toCharArray()) x.feed(c);
        return x;
    }

    private static StreetTongues townOf(String text) {
        StreetTongues x = tell(new StreetTongues(), text);
        int streets = x.town();
        if (streets < 0) due("town() of " + text, streets, 0);
        return x;
    }

    /** All that can be asked of an object, the seed too, in few calls: an object has 512. */
    private static String picture(StreetTongues x) {
        StringBuilder s = new StringBuilder();
        for (int what = 0; what < 14; what++) s.append(x.told(what)).append(' ');
        for (int a = 0; x.street(a, 0) >= 0; a++) for (int what = 0; what < 4; what++) s.append(x.street(a, what)).append(' ');
        for (int i = 0; x.corner(i, 0) >= 0; i++) for (int what = 0; what < 7; what++) s.append(x.corner(i, what)).append(' ');
        for (int i = 0; x.logged(i, 0) >= 0; i++) for (int what = 0; what < 4; what++) s.append(x.logged(i, what)).append(' ');
        s.append(x.slips(0)).append(' ').append(x.slips(1)).append(' ').append(x.tryNext()).append(' ').append(x.judge());
        return s.append(' ').append(Edges.seedOf(x)).append(' ').append(x.fault()).toString();
    }

    private static void newObject() {
        promise = 1;
        StreetTongues x = new StreetTongues();
        for (int what = 0; what < 14; what++) due("told(" + what + ")", x.told(what), what == 9 ? NONE : 0);
        due("fault()", x.fault(), NONE);
        due("street(0, 0)", x.street(0, 0), UNKNOWN);
        due("corner(0, 0)", x.corner(0, 0), UNKNOWN);
        due("logged(0, 0)", x.logged(0, 0), NONE);
        due("over(0, false, 0)", x.over(0, false, 0), UNKNOWN);
        due("see(0, 0)", x.see(0, 0), UNKNOWN);
        due("slips(0)", x.slips(0), 0);
        due("slips(1)", x.slips(1), NONE);
        due("tryNext()", x.tryNext(), NONE);
        due("judge()", x.judge(), NONE);
        due("tear()", x.tear(), 0);
        due("more(1)", x.more(1), NOT);
        due("undo()", x.undo(), NOT);
        due("goBack(0)", x.goBack(0), NOT);
        due("seed(0)", x.seed(0), 0);
    }

    private static void feeding() {
        promise = 2;
        StreetTongues x = new StreetTongues();
        due("feed(-1)", x.feed(-1), OUTSIDE);
        due("feed(256)", x.feed(256), OUTSIDE);
        due("feed(LEAST)", x.feed(LEAST), OUTSIDE);
        due("feed(0)", x.feed(0), 1);
        due("feed(255)", x.feed(255), 2);
        for (int k = 3; k <= 240; k++) due("feed(32)", x.feed(32), k);
        due("feed(32) as the 241st", x.feed(32), FULL);
        due("feed(256) as the 241st", x.feed(256), OUTSIDE);
        due("told(3)", x.told(3), 240);
        due("town()", x.town(), -11);
        due("feed(116) behind town()", x.feed(116), 1);
    }

    private static void text(String text, int town, int fault) {
        StreetTongues x = tell(new StreetTongues(), text);
        promise = 3;
        due("town() of '" + text + "'", x.town(), town);
        due("told(3) behind it", x.told(3), 0);
        promise = 4;
        due("fault() of '" + text + "'", x.fault(), fault);
    }

    private static String sevenStreets() { return "t2;s0 1;s0 1;s0 1;s0 1;s0 1;s0 1;s0 1;"; }

    private static String tenCorners() {
        StringBuilder s = new StringBuilder(sevenStreets());
        for (String two : "0 1,0 2,0 3,0 4,0 5,0 6,1 2,1 3,1 4,1 5".split(",")) s.append("i").append(two).append(" 3 0 1 1;");
        return s.toString();
    }

    private static void towns() {
        text("", 0, NONE);
        text("   ", 0, NONE);
        text("t2;", 0, NONE);
        text("t002;", 0, NONE);
        text("t8;s7 0;", 1, NONE);
        text(" t 2 ; s 0  1 ;  ", 1, NONE);
        text("t2;s00 001;", 1, NONE);
        text(SQUARE, 4, NONE);
        text("t2;s0 1;s1 0;i1 0 3 1 1 99;", 2, NONE);
        text(sevenStreets(), 7, NONE);
        text(tenCorners(), 7, NONE);
    }

    private static void faults() {
        text("x", -11, 0);
        text("  x", -11, 2);
        text(";", -11, 0);
        text("2", -11, 0);
        text("s0 1;", -11, 0);
        text("i0 1 0 0 0 0;", -11, 0);
        text("\tt2;", -11, 0);
        text("t", -11, 1);
        text("t  ", -11, 3);
        text("t;", -11, 1);
        text("t2", -11, 2);
        text("t2  ", -11, 4);
        text("t2 3;", -11, 3);
        text("t2;;", -11, 3);
        text("t2;x", -11, 3);
        text("t2s0 1;", -11, 2);
        text("t2;s01;", -11, 6);
        text("t2;s0 1", -11, 7);
        text("t2;s0x1;", -11, 5);
        text("t2;s0 1 0;", -11, 8);
        text("t2;s0 t", -11, 6);
        text("t2;i", -11, 4);
        text("t1;", -12, 1);
        text("t9;", -12, 1);
        text("t9", -12, 1);
        text("t 0002;", -12, 2);
        text("t2000000000000000002;", -12, 1);
        text("t1 2;", -12, 1);
        text("t2;s2 0;", -12, 4);
        text("t2;s0 2;", -12, 6);
        text("t2;s0 0000;", -12, 6);
        text("t2;i0", -12, 4);
        text("t2;s0 1;i0 1", -12, 11);
        text("t2;s0 1;s0 1;i2 0", -12, 14);
        text("t2;s0 1;s0 1;i0 1 4 0 0 0;", -12, 18);
        text("t2;s0 1;s0 1;i0 1 3 2 0 0;", -12, 20);
        text("t2;s0 1;s0 1;i0 1 3 0 2 0;", -12, 22);
        text("t2;s0 1;s0 1;i0 1 3 0 0 100;", -12, 24);
        text("t2;t", -13, 3);
        text("t2;s0 1; t3;", -13, 9);
        text(sevenStreets() + "s", -13, 38);
        text(tenCorners() + "i0 1 3 0 0 0;", -13, 168);
        text("t2;s1 1;", -14, 6);
        text("t2;s1 1x", -14, 6);
        text("t2;s1 001;", -14, 6);
        text("t2;s0 1;s0 1;i0 0 9", -14, 16);
        text("t2;s0 1;s0 1;i0 1 3 0 0 0;i0 1", -14, 29);
        text("t2;s0 1;s0 1;i0 1 3 0 0 0;i1 0 3 0 0 0;", -14, 29);
        promise = 4;
        StreetTongues x = tell(new StreetTongues(), "x");
        x.town();
        due("town() behind a faulty one", tell(x, "t2;s0 1;").town(), 1);
        due("fault() behind a town that stands", x.fault(), NONE);
    }

    private static StreetTongues busy() {
        StreetTongues x = townOf(SQUARE);
        x.seed(77);
        x.keep(1);
        x.say(0, false, 1);
        x.say(0, true, 1);
        x.send(3, 1, 12);
        x.shut(2, true);
        x.mend(0);
        x.quarrel(2, 3, true);
        x.see(0, 1);
        x.write(1, 2);
        return x;
    }

    private static void townsAnew() {
        promise = 3;
        StreetTongues x = busy();
        String ahead = picture(x);
        tell(x, "s").town();
        alike("a faulty town()", picture(x), ahead.substring(0, ahead.lastIndexOf(' ')) + " 0");
        due("goBack(1) behind a faulty one", x.goBack(1), 1);
        x = busy();
        tell(x, SQUARE).town();
        StreetTongues y = townOf(SQUARE);
        y.seed(77);
        alike("town() anew", picture(x), picture(y));
        due("goBack(1) behind town()", x.goBack(1), NOT);
        due("undo() behind town()", x.undo(), NOT);
        x = busy();
        due("town() of nothing", x.town(), 0);
        y = new StreetTongues();
        y.seed(77);
        alike("town() of nothing", picture(x), picture(y));
        due("drift(1) behind it", x.drift(1), NOT);
    }

    private static void tellings() {
        promise = 5;
        StreetTongues x = townOf("t4;s0 1;s1 2;s2 0;i0 1 1 0 2 5;i1 2 0 2 2 7;");
        due("told(-1)", x.told(-1), OUTSIDE);
        due("told(14)", x.told(14), OUTSIDE);
        due("told(0)", x.told(0), 4);
        due("told(1)", x.told(1), 3);
        due("told(2)", x.told(2), 2);
        x.feed('t');
        due("told(3)", x.told(3), 1);
        due("told(8), 0 alone becomes another", x.told(8), 14);
        x.shut(0, true);
        due("told(8), a shut one counts", x.told(8), 14);
        due("told(7)", x.told(7), 1);
        x.shut(1, true);
        due("told(7)", x.told(7), 3);
        x.mend(0);
        due("told(8), mended", x.told(8), 15);
        x.quarrel(0, 2, true);
        x.quarrel(2, 1, true);
        due("told(6)", x.told(6), 2);
        x.see(0, 0);
        x.see(0, 0);
        due("told(11)", x.told(11), 2);
        x.write(0, 0);
        due("told(12)", x.told(12), 1);
        due("told(13)", x.told(13), 5);
        blames();
        promise = 5;
        due("told(8) without corners", townOf("t3;s0 1;").told(8), 7);
    }

    private static void blames() {
        StreetTongues x = townOf("t4;s3 1;s1 2;s1 0;i0 1 3 0 0 0;i1 2 3 0 0 0;");
        due("told(9)", x.told(9), NONE);
        x.say(0, false, 3);
        due("told(9), no insult", x.told(9), NONE);
        x.say(0, true, 4441);
        due("told(9), once, however often in it", x.told(9), 3);
        x.say(0, false, 2);
        due("told(9), of like ones the least", x.told(9), 1);
        x.say(0, true, 14);
        due("told(9), the most", x.told(9), 3);
        x.say(1, false, 2);
        x.say(1, true, 4);
        due("told(9), of like ones the least", x.told(9), 1);
        for (int k = 0; k < 20; k++) x.say(0, false, 3);
        due("told(9), the log has lost them", x.told(9), NONE);
        due("told(10)", x.told(10), 20);
        StreetTongues y = townOf("t2;s0 1;s0 1;i0 1 3 0 0 0;");
        y.say(0, false, 21);
        due("told(9), the first word", y.told(9), 0);
    }

    private static void streets() {
        promise = 6;
        StreetTongues x = townOf(SQUARE);
        due("street(4, 0)", x.street(4, 0), UNKNOWN);
        due("street(-1, 9)", x.street(-1, 9), UNKNOWN);
        due("street(0, 4)", x.street(0, 4), OUTSIDE);
        due("street(0, -1)", x.street(0, -1), OUTSIDE);
        due("street(1, 0)", x.street(1, 0), 1);
        due("street(1, 1)", x.street(1, 1), 2);
        due("street(1, 2)", x.street(1, 2), 0);
        x.quarrel(1, 3, true);
        x.quarrel(0, 1, true);
        due("street(1, 3)", x.street(1, 3), 9);
        due("street(3, 3)", x.street(3, 3), 2);
        x.say(3, false, 4321);
        due("street(2, 2)", x.street(2, 2), 4321);
        due("street(3, 2)", x.street(3, 2), 0);
    }

    private static void corners() {
        promise = 7;
        StreetTongues x = townOf(SQUARE);
        int[] second = {0, 2, 1, 3, 2, 9, 0};
        for (int what = 0; what < 7; what++) due("corner(2, " + what + ")", x.corner(2, what), second[what]);
        due("corner(4, 0)", x.corner(4, 0), UNKNOWN);
        due("corner(-1, 7)", x.corner(-1, 7), UNKNOWN);
        due("corner(0, 7)", x.corner(0, 7), OUTSIDE);
        due("corner(0, -1)", x.corner(0, -1), OUTSIDE);
        x.shut(2, true);
        x.mend(2);
        due("corner(2, 6)", x.corner(2, 6), 1);
        due("corner(2, 2)", x.corner(2, 2), 3);
        due("corner(2, 3)", x.corner(2, 3), 3);
        due("corner(2, 4)", x.corner(2, 4), 2);
    }

    private static void logs() {
        promise = 8;
        StreetTongues x = townOf(SQUARE);
        due("logged(0, 4)", x.logged(0, 4), OUTSIDE);
        due("logged(99, -1)", x.logged(99, -1), OUTSIDE);
        due("logged(0, 0)", x.logged(0, 0), NONE);
        x.say(0, true, 13);
        x.send(0, 3, 12);
        int[] latest = {0, 3, 12, 32};
        int[] first = {1, 0, 13, 23};
        for (int what = 0; what < 4; what++) {
            due("logged(0, " + what + ")", x.logged(0, what), latest[what]);
            due("logged(1, " + what + ")", x.logged(1, what), first[what]);
        }
        due("logged(2, 0)", x.logged(2, 0), NONE);
        due("logged(-1, 0)", x.logged(-1, 0), NONE);
        for (int k = 0; k < 19; k++) x.say(3, false, 1 + k % 4);
        due("logged(19, 3), the 20th", x.logged(19, 3), 32);
        due("logged(20, 3)", x.logged(20, 3), NONE);
        x.say(3, true, 4);
        due("logged(19, 2)", x.logged(19, 2), 1);
        due("logged(0, 0)", x.logged(0, 0), 2);
    }

    private static void refusedSayings(StreetTongues x) {
        for (int s : new int[] {0, -1, 5, 10, 101, 1115, 1151, 1511, 5111, 11111, 44444, LEAST, MOST}) {
            due("say(0, false, " + s + ")", x.say(0, false, s), OUTSIDE);
            due("send(0, 1, " + s + ")", x.send(0, 1, s), OUTSIDE);
        }
    }

    private static void sayings() {
        promise = 9;
        StreetTongues x = townOf(SQUARE);
        String ahead = picture(x);
        refusedSayings(x);
        due("say(4, false, 0)", x.say(4, false, 0), UNKNOWN);
        due("say(-1, true, 1)", x.say(-1, true, 1), UNKNOWN);
        alike("refused ones", picture(x), ahead);
        due("say(0, false, 4321)", x.say(0, false, 4321), 4312);
        due("told(4)", x.told(4), 1);
        due("street(1, 2)", x.street(1, 2), 4312);
        due("told(6), insult 1 is in it, though yes is, too", x.told(6), 1);
        due("told(5)", x.told(5), 0);
        due("say(1, true, 4)", x.say(1, true, 4), 3);
        due("told(5), yes without a feud", x.told(5), 1);
        due("street(1, 3), the feud is with another", x.street(1, 3), 1);
        due("say(0, false, 3)", x.say(0, false, 3), 3);
        due("told(6), yes ends it", x.told(6), 0);
        due("told(5), and no husband", x.told(5), 1);
        due("say(0, false, 3)", x.say(0, false, 3), 3);
        due("told(5), again a husband", x.told(5), 2);
        due("say(1, false, 4)", x.say(1, false, 4), 1);
        due("told(4)", x.told(4), 7);
        x.shut(0, true);
        ahead = picture(x);
        due("say(0, false, 1), shut", x.say(0, false, 1), NOT);
        due("say(0, false, 9), shut", x.say(0, false, 9), OUTSIDE);
        alike("refused ones", picture(x), ahead);
    }

    private static void sendings() {
        promise = 10;
        StreetTongues x = townOf(SQUARE);
        String ahead = picture(x);
        due("send(0, 0, 1)", x.send(0, 0, 1), UNKNOWN);
        due("send(0, 4, 0)", x.send(0, 4, 0), UNKNOWN);
        due("send(-1, 0, 1)", x.send(-1, 0, 1), UNKNOWN);
        alike("refused ones", picture(x), ahead);
        due("send(0, 2, 1)", x.send(0, 2, 1), 3);
        due("told(4), the cheaper way", x.told(4), 3);
        due("street(1, 2), on the way none hears", x.street(1, 2), 0);
        due("street(2, 3), with where it began", x.street(2, 3), 1);
        due("street(0, 3)", x.street(0, 3), 4);
        due("told(10)", x.told(10), 1);
        due("send(2, 0, 3), back", x.send(2, 0, 3), 1);
        x.shut(1, true);
        due("send(0, 2, 14), by the dearer one", x.send(0, 2, 14), 13);
        due("told(4)", x.told(4), 15);
        x.shut(2, true);
        ahead = picture(x);
        due("send(0, 2, 1), no way", x.send(0, 2, 1), NOT);
        due("send(0, 2, 9), no way", x.send(0, 2, 9), OUTSIDE);
        alike("refused ones", picture(x), ahead);
    }

    private static void sendingsOfLikeWays() {
        StreetTongues x = townOf("t8;s0 7;s0 7;s0 7;s0 7;i0 1 2 1 0 0;i1 3 3 0 0 2;i0 2 2 2 0 1;i2 3 3 0 0 1;");
        due("send(0, 3, 1), of like ones the first", x.send(0, 3, 1), 2);
        due("send(3, 0, 1), of like ones the first", x.send(3, 0, 1), 8);
        x = townOf("t8;s0 7;s0 7;s0 7;s0 7;i0 2 2 1 0 0;i1 3 3 0 0 2;i0 1 2 2 0 0;i2 3 3 0 0 2;");
        due("send(0, 3, 1), by the first corner", x.send(0, 3, 1), 2);
        due("send(3, 0, 1), by the first corner", x.send(3, 0, 1), 7);
        x = townOf("t8;s0 7;s0 7;s0 7;i0 1 2 1 0 0;i1 2 2 1 0 0;i0 2 2 5 0 0;");
        due("send(0, 2, 1), fewest corners ahead of the first", x.send(0, 2, 1), 6);
    }

    private static void shutting() {
        promise = 11;
        StreetTongues x = townOf(SQUARE);
        due("shut(4, true)", x.shut(4, true), UNKNOWN);
        due("shut(-1, false)", x.shut(-1, false), UNKNOWN);
        due("told(13)", x.told(13), 0);
        due("shut(3, false)", x.shut(3, false), 0);
        due("shut(3, true)", x.shut(3, true), 0);
        due("shut(3, true)", x.shut(3, true), 1);
        due("told(7)", x.told(7), 8);
        due("shut(3, false)", x.shut(3, false), 1);
        due("told(7)", x.told(7), 0);
        due("told(13)", x.told(13), 4);
    }

    private static void mending() {
        promise = 12;
        StreetTongues x = townOf(SQUARE);
        due("mend(4)", x.mend(4), UNKNOWN);
        due("mend(-1)", x.mend(-1), UNKNOWN);
        due("mend(2)", x.mend(2), 1);
        due("mend(2)", x.mend(2), 3);
        due("over(2, false, 3)", x.over(2, false, 3), 3);
        x.shut(0, true);
        due("mend(0), shut", x.mend(0), 0);
        due("told(7), still shut", x.told(7), 1);
        due("told(13)", x.told(13), 4);
    }

    private static void quarrels() {
        promise = 13;
        StreetTongues x = townOf(SQUARE);
        due("quarrel(1, 1, true)", x.quarrel(1, 1, true), UNKNOWN);
        due("quarrel(1, 4, true)", x.quarrel(1, 4, true), UNKNOWN);
        due("quarrel(-1, 1, true)", x.quarrel(-1, 1, true), UNKNOWN);
        due("told(13)", x.told(13), 0);
        due("quarrel(1, 3, true)", x.quarrel(1, 3, true), 0);
        due("quarrel(3, 1, true), both ways", x.quarrel(3, 1, true), 1);
        due("told(6)", x.told(6), 1);
        due("quarrel(3, 1, false)", x.quarrel(3, 1, false), 1);
        due("quarrel(1, 3, false)", x.quarrel(1, 3, false), 0);
        due("told(6)", x.told(6), 0);
        due("told(13)", x.told(13), 4);
    }

    private static void drifting() {
        promise = 14;
        StreetTongues x = new StreetTongues();
        due("drift(0)", x.drift(0), OUTSIDE);
        due("drift(1)", x.drift(1), NOT);
        x = townOf("t4;s0 1;");
        x.seed(9);
        due("drift(60), one street", x.drift(60), 0);
        due("seed(9), nothing was drawn", x.seed(9), 9);
        due("told(13)", x.told(13), 1);
        x = townOf("t4;s0 1;s0 1;");
        due("drift(1), no corner", x.drift(1), 0);
        due("seed(0), three draws", x.seed(0), threeDraws());
        x = townOf(SQUARE);
        String ahead = picture(x);
        due("drift(61)", x.drift(61), OUTSIDE);
        due("drift(-1)", x.drift(-1), OUTSIDE);
        alike("refused ones", picture(x), ahead);
        x.seed(5);
        due("drift(20)", x.drift(20), 27);
        due("told(5)", x.told(5), 2);
        due("told(13), one step", x.told(13), 1);
    }

    private static int threeDraws() {
        long seed = 0;
        for (int k = 0; k < 3; k++) seed = (seed * 1103515245L + 12345L) % 2147483648L;
        return (int) seed;
    }

    private static StreetTongues afterActs(int acts) {
        StreetTongues x = townOf(SQUARE);
        if (acts > 0) x.say(0, false, 1);
        if (acts > 1) x.send(0, 3, 1234);
        if (acts > 2) x.shut(1, true);
        if (acts > 3) x.mend(0);
        if (acts > 4) x.quarrel(1, 2, true);
        if (acts > 5) x.drift(60);
        return x;
    }

    private static void undoing() {
        promise = 15;
        for (int left = 0; left < 6; left++) {
            StreetTongues x = afterActs(6);
            for (int k = 5; k >= left; k--) due("undo()", x.undo(), k);
            due("the seed stays", x.seed(0) == 0 ? 1 : 0, 0);
            alike("undo() to " + left, picture(x), picture(afterActs(left)));
        }
        StreetTongues x = townOf(SQUARE);
        due("undo()", x.undo(), NOT);
        for (int k = 0; k < 17; k++) x.quarrel(0, 1, k % 2 == 0);
        due("told(13)", x.told(13), 16);
        for (int k = 15; k >= 0; k--) due("undo()", x.undo(), k);
        due("undo(), the oldest is lost", x.undo(), NOT);
        due("told(6)", x.told(6), 1);
    }

    private static void putOver() {
        promise = 16;
        StreetTongues x = townOf("t5;s0 1;s0 1;s0 1;s0 1;i0 1 0 1 3 0;i0 2 1 1 3 0;i0 3 2 2 4 0;i1 2 3 1 3 0;");
        int[][] forth = {{0, 3, 2, 1, 4}, {0, 3, 2, 3, 4}, {2, 3, 4, 0, 1}, {0, 1, 2, 3, 4}};
        int[][] back = {{0, 3, 2, 1, 4}, {0, 3, 2, 3, 4}, {3, 4, 0, 1, 2}, {0, 1, 2, 3, 4}};
        x.shut(1, true);
        for (int i = 0; i < 4; i++) {
            for (int w = 0; w < 5; w++) {
                due("over(" + i + ", false, " + w + ")", x.over(i, false, w), forth[i][w]);
                due("over(" + i + ", true, " + w + ")", x.over(i, true, w), back[i][w]);
            }
        }
        due("over(4, false, 0)", x.over(4, false, 0), UNKNOWN);
        due("over(-1, false, 0)", x.over(-1, false, 0), UNKNOWN);
        due("over(0, false, 5)", x.over(0, false, 5), UNKNOWN);
        due("over(0, false, -1)", x.over(0, false, -1), UNKNOWN);
    }

    private static void becoming() {
        promise = 17;
        StreetTongues x = townOf(SQUARE);
        String ahead = picture(x);
        due("becomes(0, 2, 0), through two", x.becomes(0, 2, 0), 2);
        due("becomes(2, 0, 2), back", x.becomes(2, 0, 2), 0);
        due("becomes(0, 3, 3), through three", x.becomes(0, 3, 3), 0);
        due("becomes(0, 0, 0)", x.becomes(0, 0, 0), UNKNOWN);
        due("becomes(0, 4, 0)", x.becomes(0, 4, 0), UNKNOWN);
        due("becomes(0, 1, 4)", x.becomes(0, 1, 4), UNKNOWN);
        due("becomes(0, 1, -1)", x.becomes(0, 1, -1), UNKNOWN);
        alike("what is tried", picture(x), ahead);
        x.shut(1, true);
        due("becomes(0, 2, 3), the other way", x.becomes(0, 2, 3), 2);
        x.shut(2, true);
        due("becomes(0, 2, 3), none", x.becomes(0, 2, 3), NONE);
    }

    private static void ways() {
        promise = 18;
        StreetTongues x = townOf(SQUARE);
        due("way(0, 3, 0)", x.way(0, 3, 0), 4);
        due("way(0, 3, 1)", x.way(0, 3, 1), 3);
        due("way(0, 3, 2)", x.way(0, 3, 2), 0);
        due("way(3, 0, 2)", x.way(3, 0, 2), 3);
        due("way(0, 0, 0)", x.way(0, 0, 0), UNKNOWN);
        due("way(0, 4, 9)", x.way(0, 4, 9), UNKNOWN);
        due("way(0, 1, 3)", x.way(0, 1, 3), OUTSIDE);
        due("way(0, 1, -1)", x.way(0, 1, -1), OUTSIDE);
        x.shut(3, true);
        for (int what = 0; what < 3; what++) due("way(0, 3, " + what + ")", x.way(0, 3, what), NONE);
        due("way(0, 3, 3)", x.way(0, 3, 3), OUTSIDE);
    }

    private static void throughs() {
        promise = 19;
        StreetTongues x = townOf(SQUARE);
        due("through(0, 0, 0, 0, 0), where one is", x.through(0, 0, 0, 0, 0), 0);
        due("through(0, 0, 0, 0, 1)", x.through(0, 0, 0, 0, 1), 0);
        due("through(0, 2, 2, 2, 0), one corner", x.through(0, 2, 2, 2, 0), 1);
        due("through(0, 0, 2, 2, 0)", x.through(0, 0, 2, 2, 0), 2);
        due("through(0, 0, 2, 2, 1)", x.through(0, 0, 2, 2, 1), 3);
        due("through(0, 0, 0, 1, 0)", x.through(0, 0, 0, 1, 0), NONE);
        due("through(0, 0, 0, 1, 1)", x.through(0, 0, 0, 1, 1), NONE);
        StreetTongues y = townOf("t4;s0 1;s0 1;s0 1;i0 2 3 0 0 9;i0 1 3 0 0 1;i1 2 3 0 0 1;");
        due("through(0, 3, 2, 3, 0)", y.through(0, 3, 2, 3, 0), 1);
        due("through(0, 3, 2, 3, 1), cheaper by more", y.through(0, 3, 2, 3, 1), 2);
        for (int bad : new int[] {-1, 4, LEAST, MOST}) {
            due("through(bad, 0, 0, 0, 0)", x.through(bad, 0, 0, 0, 0), UNKNOWN);
            due("through(0, bad, 0, 0, 0)", x.through(0, bad, 0, 0, 0), UNKNOWN);
            due("through(0, 0, bad, 0, 0)", x.through(0, 0, bad, 0, 0), UNKNOWN);
            due("through(0, 0, 0, bad, 2)", x.through(0, 0, 0, bad, 2), UNKNOWN);
            due("through(0, 0, 0, 0, bad)", x.through(0, 0, 0, 0, bad), OUTSIDE);
        }
        due("through(0, 0, 0, 0, 2)", x.through(0, 0, 0, 0, 2), OUTSIDE);
        x.shut(3, true);
        due("through(3, 0, 2, 0, 0), shut", x.through(3, 0, 2, 0, 0), NONE);
        due("through(3, 0, 3, 0, 0), shut", x.through(3, 0, 3, 0, 0), 0);
    }

    private static void codes() {
        promise = 20;
        StreetTongues x = townOf(SQUARE);
        due("code(0, 2, 0)", x.code(0, 2, 0), 8);
        due("code(0, 1, 1)", x.code(0, 1, 1), 1);
        x.shut(1, true);
        due("code(0, 2, 2), two words", x.code(0, 2, 2), 12);
        due("code(0, 2, 3), no word", x.code(0, 2, 3), 0);
        due("code(0, 0, 0)", x.code(0, 0, 0), UNKNOWN);
        due("code(4, 0, 0)", x.code(4, 0, 0), UNKNOWN);
        due("code(0, 1, 4)", x.code(0, 1, 4), UNKNOWN);
        x.shut(0, true);
        due("code(0, 1, 0), no way", x.code(0, 1, 0), 0);
    }

    private static void origins() {
        promise = 21;
        StreetTongues x = townOf(SQUARE);
        due("origin(2, 2, 0, -1)", x.origin(2, 2, 0, NONE), 1);
        due("origin(2, 2, 0, 2)", x.origin(2, 2, 0, 2), 4);
        due("origin(2, 2, 0, 0)", x.origin(2, 2, 0, 0), 0);
        due("origin(2, 2, 1, -1)", x.origin(2, 2, 1, NONE), 4);
        due("origin(2, 2, 1, 0)", x.origin(2, 2, 1, 0), 12);
        due("origin(2, 2, 1, 1)", x.origin(2, 2, 1, 1), 2);
        due("origin(2, 2, 10, -1)", x.origin(2, 2, 10, NONE), OUTSIDE);
        due("origin(2, 2, -1, -1)", x.origin(2, 2, -1, NONE), OUTSIDE);
        due("origin(2, 2, 10, 4)", x.origin(2, 2, 10, 4), UNKNOWN);
        due("origin(2, 2, 1, -2)", x.origin(2, 2, 1, -2), UNKNOWN);
        due("origin(4, 2, 1, -1)", x.origin(4, 2, 1, NONE), UNKNOWN);
        due("origin(2, 4, 1, -1)", x.origin(2, 4, 1, NONE), UNKNOWN);
        x.shut(2, true);
        due("origin(2, 2, 1, 0), shut", x.origin(2, 2, 1, 0), 0);
        due("origin(2, 2, 9, 1)", x.origin(2, 2, 9, 1), 2);
    }

    private static void rings() {
        promise = 22;
        StreetTongues x = townOf(SQUARE);
        due("ring(0, 0, 0), there and back", x.ring(0, 0, 0), 2);
        due("ring(0, 3, 2)", x.ring(0, 3, 2), 2);
        due("ring(0, 0, 1)", x.ring(0, 0, 1), NONE);
        due("ring(3, 0, 3), twice round", x.ring(3, 0, 3), 8);
        due("ring(4, 0, 0)", x.ring(4, 0, 0), UNKNOWN);
        due("ring(0, 4, 0)", x.ring(0, 4, 0), UNKNOWN);
        due("ring(0, 0, -1)", x.ring(0, 0, -1), UNKNOWN);
        x.shut(3, true);
        due("ring(3, 0, 0), shut", x.ring(3, 0, 0), NONE);
        StreetTongues y = townOf("t2;s0 1;s0 1;i0 1 1 0 1 0;");
        due("ring(0, 1, 1)", y.ring(0, 1, 1), 2);
        due("ring(0, 0, 1)", y.ring(0, 0, 1), 2);
        due("ring(0, 0, 0), it never comes back", y.ring(0, 0, 0), NONE);
        StreetTongues round = townOf("t3;s0 1;s0 1;s0 1;i0 1 2 1 0 0;i1 2 3 0 0 0;i0 2 3 0 0 0;");
        due("ring(0, 0, 1), round", round.ring(0, 0, 1), 3);
        due("ring(0, 0, 2), the other way round", round.ring(0, 0, 2), 3);
    }

    private static void mores() {
        promise = 23;
        StreetTongues x = townOf(SQUARE);
        due("more(0)", x.more(0), 3);
        due("more(1)", x.more(1), 12);
        due("more(2)", x.more(2), OUTSIDE);
        x.shut(3, true);
        due("more(0), 3 has no way", x.more(0), 13);
        due("more(1), 3 has no way", x.more(1), 18);
        due("more(-1)", x.more(-1), OUTSIDE);
        due("more(2) without a town", new StreetTongues().more(2), OUTSIDE);
        due("more(0), one street", townOf("t2;s0 1;").more(0), NONE);
        due("more(1), no street", townOf("t2;").more(1), NONE);
        StreetTongues two = townOf("t2;s0 1;s0 1;i0 1 3 0 0 1;");
        two.shut(0, true);
        due("more(0), a shut corner is one", two.more(0), NONE);
        due("more(1), a shut corner is one", two.more(1), NONE);
        StreetTongues lone = townOf("t2;s0 1;s0 1;s0 1;");
        due("more(0), of like ones the least", lone.more(0), 1);
        due("more(1), 100 for each without a way", lone.more(1), 400);
        StreetTongues dear = townOf("t2;s0 1;s0 1;s0 1;s0 1;i0 1 3 0 0 99;i1 2 3 0 0 99;");
        due("more(0)", dear.more(0), 2);
        due("more(1), dear ways cost more than none", dear.more(1), 2 * (99 + 99 + 0) + 6 * 100);
    }

    private static void cuts() {
        promise = 24;
        StreetTongues x = townOf(SQUARE);
        due("cut(0, 2, 0)", x.cut(0, 2, 0), 5);
        due("cut(0, 2, 1)", x.cut(0, 2, 1), 2);
        due("cut(3, 0, 0)", x.cut(3, 0, 0), 8);
        due("cut(3, 0, 1)", x.cut(3, 0, 1), 1);
        due("cut(0, 0, 0)", x.cut(0, 0, 0), UNKNOWN);
        due("cut(0, 4, 2)", x.cut(0, 4, 2), UNKNOWN);
        due("cut(0, 1, 2)", x.cut(0, 1, 2), OUTSIDE);
        due("cut(0, 1, -1)", x.cut(0, 1, -1), OUTSIDE);
        x.shut(0, true);
        due("cut(0, 2, 0), one is shut already", x.cut(0, 2, 0), 4);
        x.shut(2, true);
        due("cut(0, 2, 0), cut already", x.cut(0, 2, 0), 0);
        due("cut(0, 2, 1), cut already", x.cut(0, 2, 1), 0);
        StreetTongues chain = townOf("t2;s0 1;s0 1;s0 1;i1 2 3 0 0 0;i0 1 3 0 0 0;");
        due("cut(0, 2, 0), of like ones the least", chain.cut(0, 2, 0), 1);
    }

    private static void walks() {
        promise = 25;
        StreetTongues x = townOf(SQUARE);
        due("walk(0)", x.walk(0), 3);
        due("walk(2), one again", x.walk(2), 4);
        due("walk(4)", x.walk(4), UNKNOWN);
        due("walk(-1)", x.walk(-1), UNKNOWN);
        for (int i = 0; i < 4; i++) x.shut(i, true);
        due("walk(0), shut ones, too", x.walk(0), 3);
        due("walk(0), one street", townOf("t2;s0 1;").walk(0), 0);
        due("walk(0), no corner", townOf("t2;s0 1;s0 1;").walk(0), NONE);
        StreetTongues star = townOf("t2;s0 1;s0 1;s0 1;s0 1;s0 1;s0 1;s0 1;"
            + "i0 1 3 0 0 0;i0 2 3 0 0 0;i0 3 3 0 0 0;i0 4 3 0 0 0;i0 5 3 0 0 0;i0 6 3 0 0 0;");
        due("walk(0), a star", star.walk(0), 11);
        due("walk(6), a star", star.walk(6), 10);
    }

    private static void odds() {
        promise = 26;
        StreetTongues x = new StreetTongues();
        due("holds(0, 0)", x.holds(0, 0), 1000000000);
        due("holds(1, 0)", x.holds(1, 0), 0);
        due("holds(60, 100)", x.holds(60, 100), 1000000000);
        due("holds(3, 90)", x.holds(3, 90), 729000000);
        due("holds(5, 33), cut each time", x.holds(5, 33), 3913539);
        due("holds(6, 33), cut each time", x.holds(6, 33), 1291467);
        due("holds(7, 33), cut each time", x.holds(7, 33), 426184);
        due("holds(61, 1)", x.holds(61, 1), OUTSIDE);
        due("holds(-1, 1)", x.holds(-1, 1), OUTSIDE);
        due("holds(1, 101)", x.holds(1, 101), OUTSIDE);
        due("holds(1, -1)", x.holds(1, -1), OUTSIDE);
    }

    private static void seeing() {
        promise = 27;
        StreetTongues x = townOf(SQUARE);
        due("see(4, 0)", x.see(4, 0), UNKNOWN);
        due("see(0, -1)", x.see(0, -1), UNKNOWN);
        for (int k = 1; k <= 6; k++) due("see(1, 1)", x.see(1, 1), k);
        due("see(1, 1)", x.see(1, 1), FULL);
        due("see(4, 1)", x.see(4, 1), UNKNOWN);
        due("told(11)", x.told(11), 6);
        due("undo(), it is none of those", x.undo(), NOT);
    }

    private static void slipping() {
        promise = 28;
        StreetTongues x = townOf("t8;");
        due("slips(0), 28, 56, 7, 1", x.slips(0), 92);
        due("slips(1)", x.slips(1), 1);
        due("slips(2)", x.slips(2), OUTSIDE);
        due("slips(-1)", x.slips(-1), OUTSIDE);
        due("slips(2) without a town", new StreetTongues().slips(2), OUTSIDE);
        x.see(5, 2);
        due("slips(0), swap, turn, shift", x.slips(0), 3);
        due("slips(1)", x.slips(1), 25);
        x.see(2, 2);
        due("slips(0), turn", x.slips(0), 1);
        due("slips(1)", x.slips(1), 152);
        x.tear();
        x.see(5, 2);
        x.see(6, 3);
        due("slips(1), shift", x.slips(1), 250);
        x.tear();
        for (int w = 0; w < 6; w++) x.see(w, w);
        due("slips(0), swap 6 7, 14 turns of them, plain", x.slips(0), 16);
        due("slips(1)", x.slips(1), 67);
        x.tear();
        x.see(0, 0);
        x.see(0, 1);
        due("slips(0)", x.slips(0), 0);
        due("slips(1)", x.slips(1), NONE);
        StreetTongues two = townOf("t2;");
        due("slips(0), 1, 2, 1, 1", two.slips(0), 5);
        two.see(0, 0);
        two.see(1, 1);
        due("slips(0), plain", two.slips(0), 1);
        due("slips(1), plain", two.slips(1), 300);
    }

    private static void trying() {
        promise = 29;
        StreetTongues x = townOf(SQUARE);
        due("tryNext()", x.tryNext(), 0);
        x.see(0, 1);
        due("tryNext(), swap, turn, shift by 1", x.tryNext(), 1);
        x.see(1, 0);
        due("tryNext(), one is left", x.tryNext(), NONE);
        x.tear();
        x.see(1, 1);
        x.see(0, 0);
        due("tryNext(), 2 and 3 are left", x.tryNext(), 2);
        x.see(2, 2);
        due("tryNext(), plain or 3 turns", x.tryNext(), 3);
        x.see(2, 3);
        due("tryNext(), none fits", x.tryNext(), NONE);
        StreetTongues y = townOf("t2;");
        y.see(0, 1);
        y.see(1, 0);
        due("slips(0), swap and shift", y.slips(0), 2);
        due("tryNext(), no word parts them", y.tryNext(), NONE);
        due("tryNext() without a town", new StreetTongues().tryNext(), NONE);
    }

    private static void writing() {
        promise = 30;
        StreetTongues x = townOf(SQUARE);
        due("write(4, 99)", x.write(4, 99), UNKNOWN);
        due("write(-1, 0)", x.write(-1, 0), UNKNOWN);
        for (int s : new int[] {-1, 5, 10, 5111, 11111, LEAST, MOST}) due("write(0, " + s + ")", x.write(0, s), OUTSIDE);
        for (int k = 1; k <= 15; k++) due("write(0, 0)", x.write(0, k % 2 * 4444), k);
        due("write(0, 0)", x.write(0, 0), FULL);
        due("write(0, 5)", x.write(0, 5), OUTSIDE);
        due("told(12)", x.told(12), 15);
        due("undo(), it is none of those", x.undo(), NOT);
    }

    private static void tearing() {
        promise = 31;
        StreetTongues x = townOf(SQUARE);
        x.see(0, 1);
        x.see(0, 2);
        x.write(0, 1);
        due("tear()", x.tear(), 3);
        due("told(11)", x.told(11), 0);
        due("told(12)", x.told(12), 0);
        due("slips(0)", x.slips(0), 22);
        due("judge()", x.judge(), NONE);
        due("tear()", x.tear(), 0);
    }

    private static void judging() {
        promise = 32;
        StreetTongues x = townOf(SQUARE);
        due("judge()", x.judge(), NONE);
        x.write(1, 2);
        x.write(0, 0);
        due("judge()", x.judge(), 0);
        x.say(0, false, 1);
        due("judge()", x.judge(), NONE);
        x.write(1, 0);
        due("judge(), the third", x.judge(), 2);
        x.undo();
        due("judge(), by what is so now", x.judge(), 0);
    }

    private static void seeds() {
        promise = 33;
        StreetTongues x = new StreetTongues();
        due("seed(2147483647)", x.seed(MOST), 0);
        due("seed(-1)", x.seed(-1), OUTSIDE);
        due("seed(LEAST)", x.seed(LEAST), OUTSIDE);
        due("seed(7)", x.seed(7), MOST);
        tell(x, "t2;").town();
        due("seed(0) behind town()", x.seed(0), 7);
    }

    private static void images() {
        promise = 34;
        StreetTongues x = townOf(SQUARE);
        due("keep(2)", x.keep(2), UNKNOWN);
        due("keep(-1)", x.keep(-1), UNKNOWN);
        x.seed(123);
        x.say(0, false, 1);
        due("keep(2)", x.keep(2), UNKNOWN);
        due("told(13), refused", x.told(13), 1);
        due("keep(0)", x.keep(0), 1);
        due("told(13)", x.told(13), 0);
        String kept = picture(x);
        promise = 35;
        due("goBack(1)", x.goBack(1), NOT);
        due("goBack(2)", x.goBack(2), UNKNOWN);
        due("goBack(-1)", x.goBack(-1), UNKNOWN);
        x.shut(1, true);
        x.mend(0);
        x.drift(9);
        x.quarrel(1, 2, true);
        due("goBack(1)", x.goBack(1), NOT);
        due("told(13), refused", x.told(13), 4);
        due("keep(1)", x.keep(1), 1);
        String second = picture(x);
        x.see(0, 1);
        x.write(0, 0);
        x.drift(30);
        due("goBack(0)", x.goBack(0), 1);
        due("told(11), what is seen stays", x.told(11), 1);
        due("told(12), the book stays", x.told(12), 1);
        x.tear();
        alike("goBack(0)", picture(x), kept);
        due("undo()", x.undo(), NOT);
        x.drift(3);
        due("goBack(1)", x.goBack(1), 1);
        alike("goBack(1)", picture(x), second);
        due("goBack(0), an image stays", x.goBack(0), 1);
        due("told(10)", x.told(10), 1);
        StreetTongues y = new StreetTongues();
        promise = 34;
        due("keep(1) without a town", y.keep(1), 1);
        due("goBack(1) without a town", y.goBack(1), 1);
    }
}
