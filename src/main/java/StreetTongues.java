import java.util.Arrays;

/** A town whose streets do not understand one another, with an interpreter at each corner. */
public final class StreetTongues {
    public static final int NONE = -1, UNKNOWN = -1000000001, OUTSIDE = -1000000002, NOT = -1000000003, FULL = -1000000004;

    private static final int TEXT_ROOM = 240;
    private static final int MOST_WORDS = 8;
    private static final int MOST_STREETS = 7;
    private static final int MOST_CORNERS = 10;
    private static final int MOST_PRICE = 99;
    private static final int MOST_FIGURES = 4;
    private static final int MOST_COUNTED = 999999;
    private static final int MOST_LOGGED = 20;
    private static final int LOG_WIDTH = 4;
    private static final int MOST_SEEN = 6;
    private static final int MOST_ENTRIES = 15;
    private static final int MOST_UNDONE = 16;
    private static final int IMAGES = 2;
    private static final int MOST_DAYS = 60;
    private static final int MOST_ORIGIN = 9;
    private static final int MOST_HOLDS = 60;
    private static final int BILLION = 1000000000;
    private static final int SWAP = 0, TURN = 1, SHIFT = 2, PLAIN = 3;
    /** Above every cost that can be counted, and far enough below the greatest int to be added to itself. */
    private static final int FAR = 100000000;
    private static final int NO_WAY_PENCE = 100;

    private final Town town;
    private final Reader reader;
    private final Affairs now;
    private final Past past;
    private final Chairs chairs;
    private final Ways ways;
    private final Meanings meanings;
    private final Plan plan;
    private final Guess guess;
    private final Book book;
    private int lot;

    public StreetTongues() {
        town = new Town();
        reader = new Reader();
        now = new Affairs();
        past = new Past();
        chairs = new Chairs(town, now);
        ways = new Ways(chairs);
        meanings = new Meanings(chairs);
        plan = new Plan(town, now);
        guess = new Guess(town);
        book = new Book();
        lot = 0;
    }

    // ---- the town

    public int feed(int letter) {
        if (letter < 0 || letter > 255) {
            return OUTSIDE;
        }
        if (reader.isFull()) {
            return FULL;
        }
        reader.append(letter);
        return reader.length;
    }

    public int town() {
        reader.read();
        if (reader.fault != 0) {
            return -10 - reader.fault;
        }
        town.copyFrom(reader.draft);
        now.begin(town);
        past.forgetAll();
        guess.clear();
        book.clear();
        return town.streets;
    }

    public int fault() {
        return reader.faultAt;
    }

    public int told(int what) {
        switch (what) {
            case 0: return town.words;
            case 1: return town.streets;
            case 2: return town.corners;
            case 3: return reader.length;
            case 4: return now.pence();
            case 5: return now.husbands();
            case 6: return now.countFeuds();
            case 7: return now.shutSet();
            case 8: return chairs.everywhere();
            case 9: return now.blame(town);
            case 10: return now.logCount();
            case 11: return guess.count;
            case 12: return book.count;
            case 13: return past.count;
            default: return OUTSIDE;
        }
    }

    public int street(int a, int what) {
        if (!town.hasStreet(a)) {
            return UNKNOWN;
        }
        switch (what) {
            case 0: return town.insult[a];
            case 1: return town.yes[a];
            case 2: return now.heardBy(a);
            case 3: return now.feudsOf(a);
            default: return OUTSIDE;
        }
    }

    public int corner(int i, int what) {
        if (!town.hasCorner(i)) {
            return UNKNOWN;
        }
        switch (what) {
            case 0: return town.endA[i];
            case 1: return town.endB[i];
            case 2: return now.sortOf(i);
            case 3: return town.wordK[i];
            case 4: return town.wordL[i];
            case 5: return town.price[i];
            case 6: return now.isShut(i) ? 1 : 0;
            default: return OUTSIDE;
        }
    }

    public int logged(int i, int what) {
        if (what < 0 || what >= LOG_WIDTH) {
            return OUTSIDE;
        }
        if (i < 0 || i >= now.logCount()) {
            return NONE;
        }
        return now.logEntry(i, what);
    }

    // ---- what is done

    public int say(int i, boolean back, int saying) {
        if (!town.hasCorner(i)) {
            return UNKNOWN;
        }
        if (!town.hasSaying(saying)) {
            return OUTSIDE;
        }
        if (now.isShut(i)) {
            return NOT;
        }
        past.remember(now);
        int from = back ? town.endB[i] : town.endA[i];
        int to = back ? town.endA[i] : town.endB[i];
        int heard = chairs.sayingOver(i, back, saying);
        now.pay(town.price[i]);
        now.hear(town, from, to, saying, heard);
        return heard;
    }

    public int send(int a, int b, int saying) {
        if (!town.hasTwoStreets(a, b)) {
            return UNKNOWN;
        }
        if (!town.hasSaying(saying)) {
            return OUTSIDE;
        }
        if (!ways.find(a, b)) {
            return NOT;
        }
        past.remember(now);
        return deliver(a, b, saying);
    }

    public int shut(int i, boolean is) {
        if (!town.hasCorner(i)) {
            return UNKNOWN;
        }
        int was = now.isShut(i) ? 1 : 0;
        past.remember(now);
        now.setShut(i, is);
        return was;
    }

    public int mend(int i) {
        if (!town.hasCorner(i)) {
            return UNKNOWN;
        }
        int was = now.sortOf(i);
        past.remember(now);
        now.setSort(i, PLAIN);
        return was;
    }

    public int quarrel(int a, int b, boolean is) {
        if (!town.hasTwoStreets(a, b)) {
            return UNKNOWN;
        }
        int was = now.inFeud(a, b) ? 1 : 0;
        past.remember(now);
        now.setFeud(a, b, is);
        return was;
    }

    public int drift(int n) {
        if (n < 1 || n > MOST_DAYS) {
            return OUTSIDE;
        }
        if (!town.stands) {
            return NOT;
        }
        past.remember(now);
        if (town.streets >= 2) {
            for (int day = 0; day < n; day++) {
                passDay();
            }
        }
        return now.pence();
    }

    public int undo() {
        if (past.count == 0) {
            return NOT;
        }
        past.takeBack(now);
        return past.count;
    }

    // ---- tried

    public int over(int i, boolean back, int w) {
        if (!town.hasCorner(i) || !town.hasWord(w)) {
            return UNKNOWN;
        }
        return chairs.wordOver(i, back, w);
    }

    public int becomes(int a, int b, int w) {
        if (!town.hasTwoStreets(a, b) || !town.hasWord(w)) {
            return UNKNOWN;
        }
        return ways.find(a, b) ? ways.wordOnWay(w) : NONE;
    }

    public int way(int a, int b, int what) {
        if (!town.hasTwoStreets(a, b)) {
            return UNKNOWN;
        }
        if (what < 0 || what > 2) {
            return OUTSIDE;
        }
        if (!ways.find(a, b)) {
            return NONE;
        }
        if (what == 0) {
            return ways.pence;
        }
        return what == 1 ? ways.length : ways.chain[0];
    }

    public int through(int a, int w, int b, int v, int what) {
        if (!town.hasStreet(a) || !town.hasWord(w) || !town.hasStreet(b) || !town.hasWord(v)) {
            return UNKNOWN;
        }
        if (what < 0 || what > 1) {
            return OUTSIDE;
        }
        return meanings.leastThrough(a, w, b, v, what == 1);
    }

    public int code(int a, int b, int v) {
        if (!town.hasTwoStreets(a, b) || !town.hasWord(v)) {
            return UNKNOWN;
        }
        int set = 0;
        if (ways.find(a, b)) {
            for (int w = 0; w < town.words; w++) {
                if (ways.wordOnWay(w) == v) {
                    set |= 1 << w;
                }
            }
        }
        return set;
    }

    public int origin(int b, int v, int n, int a) {
        if (!town.hasStreet(b) || !town.hasWord(v) || a != NONE && !town.hasStreet(a)) {
            return UNKNOWN;
        }
        if (n < 0 || n > MOST_ORIGIN) {
            return OUTSIDE;
        }
        meanings.findOrigins(b, v, n);
        return a == NONE ? meanings.countOrigins() : meanings.origins[a];
    }

    public int ring(int a, int w, int v) {
        if (!town.hasStreet(a) || !town.hasWord(w) || !town.hasWord(v)) {
            return UNKNOWN;
        }
        return meanings.shortestRing(a, w, v);
    }

    public int more(int what) {
        if (what < 0 || what > 1) {
            return OUTSIDE;
        }
        if (!town.stands) {
            return NOT;
        }
        plan.findNewCorner();
        return what == 0 ? plan.newPair : plan.newTotal;
    }

    public int cut(int a, int b, int what) {
        if (!town.hasTwoStreets(a, b)) {
            return UNKNOWN;
        }
        if (what < 0 || what > 1) {
            return OUTSIDE;
        }
        int set = plan.leastCut(a, b);
        return what == 0 ? set : Integer.bitCount(set);
    }

    public int walk(int a) {
        if (!town.hasStreet(a)) {
            return UNKNOWN;
        }
        return plan.shortestWalk(a);
    }

    public int holds(int n, int q) {
        if (n < 0 || n > MOST_HOLDS || q < 0 || q > 100) {
            return OUTSIDE;
        }
        long odds = BILLION;
        for (int i = 0; i < n; i++) {
            odds = odds * q / 100;
        }
        return (int) odds;
    }

    // ---- what is seen

    public int see(int w, int v) {
        if (!town.hasWord(w) || !town.hasWord(v)) {
            return UNKNOWN;
        }
        if (guess.count >= MOST_SEEN) {
            return FULL;
        }
        guess.append(w, v);
        return guess.count;
    }

    public int slips(int what) {
        if (what < 0 || what > 1) {
            return OUTSIDE;
        }
        int fitting = guess.findRows();
        if (what == 0) {
            return fitting;
        }
        return fitting > 0 ? guess.rows[0] : NONE;
    }

    public int tryNext() {
        return guess.bestWord();
    }

    public int write(int a, int saying) {
        if (!town.hasStreet(a)) {
            return UNKNOWN;
        }
        if (saying != 0 && !town.hasSaying(saying)) {
            return OUTSIDE;
        }
        if (book.count >= MOST_ENTRIES) {
            return FULL;
        }
        book.append(a, saying);
        return book.count;
    }

    public int tear() {
        int had = guess.count + book.count;
        guess.clear();
        book.clear();
        return had;
    }

    public int judge() {
        return book.firstWrong(now);
    }

    // ---- draws, images

    public int seed(int v) {
        if (v < 0) {
            return OUTSIDE;
        }
        int was = lot;
        lot = v;
        return was;
    }

    public int keep(int i) {
        if (i < 0 || i >= IMAGES) {
            return UNKNOWN;
        }
        past.keepImage(i, now, lot);
        return 1;
    }

    public int goBack(int i) {
        if (i < 0 || i >= IMAGES) {
            return UNKNOWN;
        }
        if (!past.hasImage(i)) {
            return NOT;
        }
        lot = past.showImage(i, now);
        return 1;
    }

    /** Sends along the way that was found last; the caller has found one from a to b. */
    private int deliver(int a, int b, int saying) {
        int heard = ways.sayingOnWay(saying);
        now.pay(ways.pence);
        now.hear(town, a, b, saying, heard);
        return heard;
    }

    private void passDay() {
        int a = draw(town.streets);
        int b = draw(town.streets);
        int w = draw(town.words);
        if (a != b && ways.find(a, b)) {
            deliver(a, b, w + 1);
        }
        if (town.corners > 0 && draw(8) == 0) {
            int i = draw(town.corners);
            now.setShut(i, !now.isShut(i));
        }
    }

    private int draw(int n) {
        lot = (int) ((lot * 1103515245L + 12345L) & 0x7fffffffL);
        return n > 0 ? lot / 65536 % n : 0;
    }

    private static int putOver(int sort, int k, int l, int words, boolean back, int w) {
        switch (sort) {
            case SWAP:
                return w == k ? l : w == l ? k : w;
            case TURN:
                return w == k ? l : w;
            case SHIFT:
                return words > 0 ? (back ? w + words - k : w + k) % words : w;
            default:
                return w;
        }
    }

    private static boolean holdsWord(int saying, int w) {
        int rest = saying;
        for (int figure = 0; figure < MOST_FIGURES && rest > 0; figure++) {
            if (rest % 10 == w + 1) {
                return true;
            }
            rest /= 10;
        }
        return false;
    }

    /** What the text told; it stays until the next text. */
    private static final class Town {
        boolean stands;
        int words;
        int streets;
        int corners;
        final int[] insult = new int[MOST_STREETS];
        final int[] yes = new int[MOST_STREETS];
        final int[] endA = new int[MOST_CORNERS];
        final int[] endB = new int[MOST_CORNERS];
        final int[] sort = new int[MOST_CORNERS];
        final int[] wordK = new int[MOST_CORNERS];
        final int[] wordL = new int[MOST_CORNERS];
        final int[] price = new int[MOST_CORNERS];

        void clear() {
            stands = false;
            words = 0;
            streets = 0;
            corners = 0;
        }

        void copyFrom(Town other) {
            stands = other.stands;
            words = other.words;
            streets = other.streets;
            corners = other.corners;
            System.arraycopy(other.insult, 0, insult, 0, MOST_STREETS);
            System.arraycopy(other.yes, 0, yes, 0, MOST_STREETS);
            System.arraycopy(other.endA, 0, endA, 0, MOST_CORNERS);
            System.arraycopy(other.endB, 0, endB, 0, MOST_CORNERS);
            System.arraycopy(other.sort, 0, sort, 0, MOST_CORNERS);
            System.arraycopy(other.wordK, 0, wordK, 0, MOST_CORNERS);
            System.arraycopy(other.wordL, 0, wordL, 0, MOST_CORNERS);
            System.arraycopy(other.price, 0, price, 0, MOST_CORNERS);
        }

        boolean hasStreet(int a) {
            return a >= 0 && a < streets;
        }

        boolean hasTwoStreets(int a, int b) {
            return a != b && hasStreet(a) && hasStreet(b);
        }

        boolean hasCorner(int i) {
            return i >= 0 && i < corners;
        }

        boolean hasWord(int w) {
            return w >= 0 && w < words;
        }

        boolean hasSaying(int saying) {
            if (saying < 1 || saying > 9999) {
                return false;
            }
            int rest = saying;
            for (int figure = 0; figure < MOST_FIGURES && rest > 0; figure++) {
                if (!hasWord(rest % 10 - 1)) {
                    return false;
                }
                rest /= 10;
            }
            return true;
        }

        boolean areJoined(int a, int b) {
            for (int i = 0; i < corners; i++) {
                if (otherEnd(i, a) == b) {
                    return true;
                }
            }
            return false;
        }

        /** The street across a corner, or NONE where that corner is not one of street a's. */
        int otherEnd(int i, int a) {
            if (endA[i] == a) {
                return endB[i];
            }
            return endB[i] == a ? endA[i] : NONE;
        }
    }

    /** The text, and the town that it tells or its first fault. */
    private static final class Reader {
        static final int BLANK = 32;
        static final int ODD = 1, BEYOND = 2, TOO_MANY = 3, ALIKE = 4;
        final int[] text = new int[TEXT_ROOM];
        final Town draft = new Town();
        int length;
        int at;
        int numberAt;
        int fault;
        int faultAt = NONE;

        boolean isFull() {
            return length >= TEXT_ROOM;
        }

        void append(int letter) {
            if (length < TEXT_ROOM) {
                text[length] = letter;
                length++;
            }
        }

        /** Reads into the draft, so that a faulty text leaves the town that stands alone. */
        void read() {
            draft.clear();
            at = 0;
            fault = 0;
            faultAt = NONE;
            skipBlanks();
            for (int clause = 0; clause < TEXT_ROOM && fault == 0 && at < length; clause++) {
                readClause();
                skipBlanks();
            }
            length = 0;
        }

        private int letter() {
            return at < length && at < TEXT_ROOM ? text[at] : NONE;
        }

        private void skipBlanks() {
            while (at < length && letter() == BLANK) {
                at++;
            }
        }

        /** Only the first fault counts: reading goes left to right, and stops at it. */
        private void blameAt(int number, int where) {
            if (fault == 0) {
                fault = number;
                faultAt = where;
            }
        }

        private void readClause() {
            int word = letter();
            if (word == 't') {
                readWords();
            } else if (word == 's' && draft.stands) {
                readStreet();
            } else if (word == 'i' && draft.stands) {
                readCorner();
            } else {
                blameAt(ODD, at);
            }
        }

        private void readWords() {
            if (draft.stands) {
                blameAt(TOO_MANY, at);
                return;
            }
            at++;
            int words = readNumber(2, MOST_WORDS);
            readEnd();
            draft.stands = true;
            draft.words = words;
        }

        private void readStreet() {
            int a = draft.streets;
            if (a >= MOST_STREETS) {
                blameAt(TOO_MANY, at);
                return;
            }
            at++;
            draft.insult[a] = readNumber(0, draft.words - 1);
            draft.yes[a] = readNumber(0, draft.words - 1);
            if (draft.yes[a] == draft.insult[a]) {
                blameAt(ALIKE, numberAt);
            }
            readEnd();
            draft.streets++;
        }

        private void readCorner() {
            int i = draft.corners;
            if (i >= MOST_CORNERS) {
                blameAt(TOO_MANY, at);
                return;
            }
            at++;
            draft.endA[i] = readNumber(0, draft.streets - 1);
            draft.endB[i] = readNumber(0, draft.streets - 1);
            if (draft.endB[i] == draft.endA[i] || draft.areJoined(draft.endA[i], draft.endB[i])) {
                blameAt(ALIKE, numberAt);
            }
            draft.sort[i] = readNumber(SWAP, PLAIN);
            draft.wordK[i] = readNumber(0, draft.words - 1);
            draft.wordL[i] = readNumber(0, draft.words - 1);
            draft.price[i] = readNumber(0, MOST_PRICE);
            readEnd();
            draft.corners++;
        }

        private int readNumber(int low, int high) {
            skipBlanks();
            if (fault != 0 || !isFigure(letter())) {
                blameAt(ODD, at);
                return 0;
            }
            numberAt = at;
            int value = 0;
            while (at < length && isFigure(letter())) {
                // a fourth figure is a fault whatever it is, so the value need not grow any more
                if (at - numberAt < 3) {
                    value = 10 * value + letter() - '0';
                }
                at++;
            }
            if (at - numberAt > 3 || value < low || value > high) {
                blameAt(BEYOND, numberAt);
                return 0;
            }
            return value;
        }

        private void readEnd() {
            skipBlanks();
            if (letter() == ';') {
                at++;
            } else {
                blameAt(ODD, at);
            }
        }

        private static boolean isFigure(int letter) {
            return letter >= '0' && letter <= '9';
        }
    }

    /**
     * All that section 2 lets change. It is one row, so that undoing and the images copy it whole
     * and can forget no part of it.
     */
    private static final class Affairs {
        static final int PENCE = 0, HUSBANDS = 1, SHUT = 2, LOGGED = 3, HEARD = 4;
        static final int FEUDS = HEARD + MOST_STREETS;
        static final int SORTS = FEUDS + MOST_STREETS;
        static final int LOG = SORTS + MOST_CORNERS;
        static final int SIZE = LOG + MOST_LOGGED * LOG_WIDTH;
        final int[] row = new int[SIZE];

        void begin(Town town) {
            Arrays.fill(row, 0);
            System.arraycopy(town.sort, 0, row, SORTS, MOST_CORNERS);
        }

        int pence() {
            return row[PENCE];
        }

        int husbands() {
            return row[HUSBANDS];
        }

        int shutSet() {
            return row[SHUT];
        }

        int logCount() {
            return row[LOGGED];
        }

        int heardBy(int a) {
            return row[HEARD + a];
        }

        int feudsOf(int a) {
            return row[FEUDS + a];
        }

        int sortOf(int i) {
            return row[SORTS + i];
        }

        /** Entry 0 is the latest. */
        int logEntry(int i, int what) {
            return row[LOG + i * LOG_WIDTH + what];
        }

        boolean isShut(int i) {
            return (row[SHUT] >> i & 1) == 1;
        }

        boolean inFeud(int a, int b) {
            return (row[FEUDS + a] >> b & 1) == 1;
        }

        void setShut(int i, boolean is) {
            row[SHUT] = is ? row[SHUT] | 1 << i : row[SHUT] & ~(1 << i);
        }

        void setSort(int i, int sort) {
            row[SORTS + i] = sort;
        }

        void setFeud(int a, int b, boolean is) {
            if (is) {
                row[FEUDS + a] |= 1 << b;
                row[FEUDS + b] |= 1 << a;
            } else {
                row[FEUDS + a] &= ~(1 << b);
                row[FEUDS + b] &= ~(1 << a);
            }
        }

        int countFeuds() {
            int bothWays = 0;
            for (int a = 0; a < MOST_STREETS; a++) {
                bothWays += Integer.bitCount(row[FEUDS + a]);
            }
            return bothWays / 2;
        }

        void pay(int pence) {
            row[PENCE] = Math.min(MOST_COUNTED, row[PENCE] + pence);
        }

        void hear(Town town, int from, int to, int said, int heard) {
            row[HEARD + to] = heard;
            if (holdsWord(heard, town.insult[to])) {
                setFeud(from, to, true);
            } else if (holdsWord(heard, town.yes[to])) {
                makePeace(from, to);
            }
            enter(from, to, said, heard);
        }

        private void makePeace(int from, int to) {
            if (inFeud(from, to)) {
                setFeud(from, to, false);
            } else {
                row[HUSBANDS] = Math.min(MOST_COUNTED, row[HUSBANDS] + 1);
            }
        }

        private void enter(int from, int to, int said, int heard) {
            System.arraycopy(row, LOG, row, LOG + LOG_WIDTH, (MOST_LOGGED - 1) * LOG_WIDTH);
            row[LOG] = from;
            row[LOG + 1] = to;
            row[LOG + 2] = said;
            row[LOG + 3] = heard;
            row[LOGGED] = Math.min(MOST_LOGGED, row[LOGGED] + 1);
        }

        int blame(Town town) {
            int worst = NONE;
            int most = 0;
            for (int w = 0; w < town.words; w++) {
                int times = countInsults(town, w);
                if (times > most) {
                    most = times;
                    worst = w;
                }
            }
            return worst;
        }

        private int countInsults(Town town, int w) {
            int times = 0;
            for (int i = 0; i < logCount(); i++) {
                int to = logEntry(i, 1);
                if (town.hasStreet(to) && town.insult[to] == w && holdsWord(logEntry(i, 3), w)) {
                    times++;
                }
            }
            return times;
        }
    }

    /** What can be undone, and the images: copies of the row of affairs in rooms made once. */
    private static final class Past {
        final int[] steps = new int[MOST_UNDONE * Affairs.SIZE];
        final int[] images = new int[IMAGES * Affairs.SIZE];
        final int[] imageLots = new int[IMAGES];
        int imageSet;
        int newest;
        int count;

        void forgetAll() {
            count = 0;
            imageSet = 0;
        }

        /** The steps go round in a ring, so that the oldest is the one that is written over. */
        void remember(Affairs now) {
            newest = (newest + 1) % MOST_UNDONE;
            count = Math.min(MOST_UNDONE, count + 1);
            System.arraycopy(now.row, 0, steps, newest * Affairs.SIZE, Affairs.SIZE);
        }

        void takeBack(Affairs now) {
            System.arraycopy(steps, newest * Affairs.SIZE, now.row, 0, Affairs.SIZE);
            newest = (newest + MOST_UNDONE - 1) % MOST_UNDONE;
            count--;
        }

        boolean hasImage(int i) {
            return (imageSet >> i & 1) == 1;
        }

        void keepImage(int i, Affairs now, int lot) {
            System.arraycopy(now.row, 0, images, i * Affairs.SIZE, Affairs.SIZE);
            imageLots[i] = lot;
            imageSet |= 1 << i;
            count = 0;
        }

        int showImage(int i, Affairs now) {
            System.arraycopy(images, i * Affairs.SIZE, now.row, 0, Affairs.SIZE);
            count = 0;
            return imageLots[i];
        }
    }

    /** The women on the chairs: how words are put over with the sorts that hold now. */
    private static final class Chairs {
        final Town town;
        final Affairs now;

        Chairs(Town town, Affairs now) {
            this.town = town;
            this.now = now;
        }

        int wordOver(int i, boolean back, int w) {
            return putOver(now.sortOf(i), town.wordK[i], town.wordL[i], town.words, back, w);
        }

        int sayingOver(int i, boolean back, int saying) {
            int result = 0;
            int scale = 1;
            int rest = saying;
            for (int figure = 0; figure < MOST_FIGURES && rest > 0; figure++) {
                result += scale * (wordOver(i, back, rest % 10 - 1) + 1);
                scale *= 10;
                rest /= 10;
            }
            return result;
        }

        int everywhere() {
            int set = 0;
            for (int w = 0; w < town.words; w++) {
                if (staysEverywhere(w)) {
                    set |= 1 << w;
                }
            }
            return set;
        }

        private boolean staysEverywhere(int w) {
            for (int i = 0; i < town.corners; i++) {
                if (wordOver(i, false, w) != w || wordOver(i, true, w) != w) {
                    return false;
                }
            }
            return true;
        }
    }

    /** The way by which a saying is sent: least pence, then fewest corners, then the first. */
    private static final class Ways {
        /** One penny outweighs all the corners that a way can have, so both are told by one cost. */
        static final int PENNY = 16;
        final Chairs chairs;
        final int[] cost = new int[MOST_STREETS];
        final int[] chain = new int[MOST_STREETS];
        int start;
        int length;
        int pence;

        Ways(Chairs chairs) {
            this.chairs = chairs;
        }

        boolean find(int a, int b) {
            measure(b);
            length = 0;
            if (cost[a] >= FAR) {
                return false;
            }
            pence = cost[a] / PENNY;
            start = a;
            int here = a;
            for (int step = 0; step < MOST_STREETS && here != b; step++) {
                int i = firstCorner(here);
                if (i == NONE) {
                    return false;
                }
                chain[length] = i;
                length++;
                here = chairs.town.otherEnd(i, here);
            }
            return true;
        }

        /** Costs are told towards the goal, so that the walk from the start can take the lesser corner each time. */
        private void measure(int goal) {
            Town town = chairs.town;
            Arrays.fill(cost, FAR);
            cost[goal] = 0;
            boolean changed = true;
            for (int round = 0; round < MOST_STREETS && changed; round++) {
                changed = false;
                for (int i = 0; i < town.corners; i++) {
                    if (!chairs.now.isShut(i)) {
                        changed |= lower(town.endA[i], town.endB[i], price(i));
                        changed |= lower(town.endB[i], town.endA[i], price(i));
                    }
                }
            }
        }

        private boolean lower(int from, int to, int price) {
            if (cost[from] + price >= cost[to]) {
                return false;
            }
            cost[to] = cost[from] + price;
            return true;
        }

        private int price(int i) {
            return chairs.town.price[i] * PENNY + 1;
        }

        private int firstCorner(int here) {
            for (int i = 0; i < chairs.town.corners; i++) {
                int there = chairs.town.otherEnd(i, here);
                if (there != NONE && !chairs.now.isShut(i) && cost[there] + price(i) == cost[here]) {
                    return i;
                }
            }
            return NONE;
        }

        int wordOnWay(int w) {
            return sayingOnWay(w + 1) - 1;
        }

        int sayingOnWay(int saying) {
            int here = start;
            int result = saying;
            for (int step = 0; step < length; step++) {
                int i = chain[step];
                result = chairs.sayingOver(i, chairs.town.endB[i] == here, result);
                here = chairs.town.otherEnd(i, here);
            }
            return result;
        }
    }

    /** Pairs of a street and a word, each a place; a corner leads from place to place. */
    private static final class Meanings {
        static final int PLACES = MOST_STREETS * MOST_WORDS;
        final Chairs chairs;
        final int[] cost = new int[PLACES];
        final int[] origins = new int[MOST_STREETS];
        final int[] earlier = new int[MOST_STREETS];

        Meanings(Chairs chairs) {
            this.chairs = chairs;
        }

        int leastThrough(int a, int w, int b, int v, boolean byPence) {
            Arrays.fill(cost, FAR);
            cost[a * MOST_WORDS + w] = 0;
            spread(byPence);
            return known(b, v);
        }

        /** The first corner is gone by ahead of the spreading, so that staying where one is makes no ring. */
        int shortestRing(int a, int w, int v) {
            Arrays.fill(cost, FAR);
            for (int i = 0; i < chairs.town.corners; i++) {
                int there = chairs.town.otherEnd(i, a);
                if (there != NONE && !chairs.now.isShut(i)) {
                    cost[there * MOST_WORDS + chairs.wordOver(i, chairs.town.endB[i] == a, w)] = 1;
                }
            }
            spread(false);
            return known(a, v);
        }

        private int known(int b, int v) {
            int least = cost[b * MOST_WORDS + v];
            return least < FAR ? least : NONE;
        }

        private void spread(boolean byPence) {
            boolean changed = true;
            for (int round = 0; round <= PLACES && changed; round++) {
                changed = false;
                for (int i = 0; i < chairs.town.corners; i++) {
                    if (!chairs.now.isShut(i)) {
                        int price = byPence ? chairs.town.price[i] : 1;
                        changed |= spreadBy(i, false, price);
                        changed |= spreadBy(i, true, price);
                    }
                }
            }
        }

        private boolean spreadBy(int i, boolean back, int price) {
            int from = back ? chairs.town.endB[i] : chairs.town.endA[i];
            int to = back ? chairs.town.endA[i] : chairs.town.endB[i];
            boolean changed = false;
            for (int w = 0; w < chairs.town.words; w++) {
                int next = cost[from * MOST_WORDS + w] + price;
                int place = to * MOST_WORDS + chairs.wordOver(i, back, w);
                if (next < cost[place]) {
                    cost[place] = next;
                    changed = true;
                }
            }
            return changed;
        }

        /** Goes back corner by corner from what came, with all the words that fit as a set for each street. */
        void findOrigins(int b, int v, int n) {
            Arrays.fill(origins, 0);
            origins[b] = 1 << v;
            for (int step = 0; step < n; step++) {
                Arrays.fill(earlier, 0);
                for (int i = 0; i < chairs.town.corners; i++) {
                    if (!chairs.now.isShut(i)) {
                        earlier[chairs.town.endA[i]] |= wordsInto(i, false, origins[chairs.town.endB[i]]);
                        earlier[chairs.town.endB[i]] |= wordsInto(i, true, origins[chairs.town.endA[i]]);
                    }
                }
                System.arraycopy(earlier, 0, origins, 0, MOST_STREETS);
            }
        }

        private int wordsInto(int i, boolean back, int aims) {
            int set = 0;
            for (int w = 0; w < chairs.town.words; w++) {
                if ((aims >> chairs.wordOver(i, back, w) & 1) == 1) {
                    set |= 1 << w;
                }
            }
            return set;
        }

        int countOrigins() {
            int pairs = 0;
            for (int a = 0; a < MOST_STREETS; a++) {
                pairs += Integer.bitCount(origins[a]);
            }
            return pairs;
        }
    }

    /** What the streets and corners answer whatever is said there: a new corner, a cut, a walk. */
    private static final class Plan {
        static final int SETS = 1 << MOST_STREETS;
        final Town town;
        final Affairs now;
        final int[] pence = new int[MOST_STREETS * MOST_STREETS];
        final int[] steps = new int[SETS * MOST_STREETS];
        final int[] queue = new int[SETS * MOST_STREETS];
        int queued;
        int newPair;
        int newTotal;

        Plan(Town town, Affairs now) {
            this.town = town;
            this.now = now;
        }

        void findNewCorner() {
            measureAll();
            newPair = NONE;
            newTotal = NONE;
            for (int a = 0; a < town.streets; a++) {
                for (int b = a + 1; b < town.streets; b++) {
                    if (!town.areJoined(a, b)) {
                        int total = totalWith(a, b);
                        if (newPair == NONE || total < newTotal) {
                            newPair = 10 * a + b;
                            newTotal = total;
                        }
                    }
                }
            }
        }

        private void measureAll() {
            Arrays.fill(pence, FAR);
            for (int a = 0; a < MOST_STREETS; a++) {
                pence[a * MOST_STREETS + a] = 0;
            }
            for (int i = 0; i < town.corners; i++) {
                if (!now.isShut(i)) {
                    pence[town.endA[i] * MOST_STREETS + town.endB[i]] = town.price[i];
                    pence[town.endB[i] * MOST_STREETS + town.endA[i]] = town.price[i];
                }
            }
            for (int between = 0; between < town.streets; between++) {
                measureBy(between);
            }
        }

        private void measureBy(int between) {
            for (int a = 0; a < town.streets; a++) {
                for (int b = 0; b < town.streets; b++) {
                    int bent = penceOf(a, between) + penceOf(between, b);
                    if (bent < penceOf(a, b)) {
                        pence[a * MOST_STREETS + b] = bent;
                    }
                }
            }
        }

        private int penceOf(int a, int b) {
            return pence[a * MOST_STREETS + b];
        }

        /** A cheapest way goes by the new corner once at most, so the old ways tell the new ones. */
        private int totalWith(int x, int y) {
            int total = 0;
            for (int a = 0; a < town.streets; a++) {
                for (int b = 0; b < town.streets; b++) {
                    int byNew = Math.min(penceOf(a, x) + penceOf(y, b), penceOf(a, y) + penceOf(x, b));
                    int least = Math.min(penceOf(a, b), byNew);
                    total += least < FAR ? least : NO_WAY_PENCE;
                }
            }
            return total;
        }

        /**
         * A fewest cut is just the open corners that lead out of the streets still reached, so it is
         * enough to look at each set of streets with a and without b.
         */
        int leastCut(int a, int b) {
            int best = NONE;
            for (int side = 0; side < 1 << town.streets; side++) {
                if ((side >> a & 1) == 1 && (side >> b & 1) == 0) {
                    int set = cornersOutOf(side);
                    if (best == NONE || isLesserCut(set, best)) {
                        best = set;
                    }
                }
            }
            return best;
        }

        private static boolean isLesserCut(int set, int best) {
            int fewer = Integer.bitCount(set) - Integer.bitCount(best);
            return fewer < 0 || fewer == 0 && set < best;
        }

        private int cornersOutOf(int side) {
            int set = 0;
            for (int i = 0; i < town.corners; i++) {
                if (!now.isShut(i) && (side >> town.endA[i] & 1) != (side >> town.endB[i] & 1)) {
                    set |= 1 << i;
                }
            }
            return set;
        }

        /** Looks at the streets one has been in together with the one where one stands, nearest first. */
        int shortestWalk(int a) {
            int all = (1 << town.streets) - 1;
            Arrays.fill(steps, NONE);
            queued = 0;
            visit(1 << a, a, 0);
            for (int next = 0; next < queued && next < queue.length; next++) {
                int been = queue[next] / MOST_STREETS;
                int here = queue[next] % MOST_STREETS;
                int gone = steps[queue[next]];
                if (been == all) {
                    return gone;
                }
                for (int i = 0; i < town.corners; i++) {
                    int there = town.otherEnd(i, here);
                    if (there != NONE) {
                        visit(been | 1 << there, there, gone + 1);
                    }
                }
            }
            return NONE;
        }

        private void visit(int been, int here, int gone) {
            int place = been * MOST_STREETS + here;
            if (steps[place] == NONE && queued < queue.length) {
                steps[place] = gone;
                queue[queued] = place;
                queued++;
            }
        }
    }

    /** What was seen at the unknown corner, and the rows by which she can have done it. */
    private static final class Guess {
        static final int MOST_ROWS = 4 * MOST_WORDS * MOST_WORDS;
        final Town town;
        final int[] said = new int[MOST_SEEN];
        final int[] came = new int[MOST_SEEN];
        final int[] rows = new int[MOST_ROWS];
        final int[] parts = new int[MOST_WORDS];
        int count;

        Guess(Town town) {
            this.town = town;
        }

        void clear() {
            count = 0;
        }

        void append(int w, int v) {
            if (count < MOST_SEEN) {
                said[count] = w;
                came[count] = v;
                count++;
            }
        }

        /** Fills the rows that fit, rising, and answers how many there are. */
        int findRows() {
            int fitting = 0;
            for (int sort = SWAP; sort <= PLAIN; sort++) {
                for (int k = 0; k < town.words; k++) {
                    for (int l = 0; l < town.words; l++) {
                        if (isRow(sort, k, l) && fits(sort, k, l)) {
                            rows[fitting] = 100 * sort + 10 * k + l;
                            fitting++;
                        }
                    }
                }
            }
            return fitting;
        }

        private static boolean isRow(int sort, int k, int l) {
            switch (sort) {
                case SWAP: return k < l;
                case TURN: return k != l;
                case SHIFT: return k > 0 && l == 0;
                default: return k == 0 && l == 0;
            }
        }

        private boolean fits(int sort, int k, int l) {
            for (int i = 0; i < count; i++) {
                if (putOver(sort, k, l, town.words, false, said[i]) != came[i]) {
                    return false;
                }
            }
            return true;
        }

        int bestWord() {
            int fitting = findRows();
            int best = NONE;
            int least = fitting;
            for (int w = 0; w < town.words; w++) {
                int greatest = greatestPart(fitting, w);
                if (greatest < least) {
                    least = greatest;
                    best = w;
                }
            }
            return best;
        }

        private int greatestPart(int fitting, int w) {
            Arrays.fill(parts, 0);
            int greatest = 0;
            for (int i = 0; i < fitting; i++) {
                int v = putOver(rows[i] / 100, rows[i] / 10 % 10, rows[i] % 10, town.words, false, w);
                parts[v]++;
                greatest = Math.max(greatest, parts[v]);
            }
            return greatest;
        }
    }

    /** What is written of what the streets heard latest. */
    private static final class Book {
        final int[] streets = new int[MOST_ENTRIES];
        final int[] sayings = new int[MOST_ENTRIES];
        int count;

        void clear() {
            count = 0;
        }

        void append(int a, int saying) {
            if (count < MOST_ENTRIES) {
                streets[count] = a;
                sayings[count] = saying;
                count++;
            }
        }

        int firstWrong(Affairs now) {
            for (int i = 0; i < count; i++) {
                if (now.heardBy(streets[i]) != sayings[i]) {
                    return i;
                }
            }
            return NONE;
        }
    }
}
