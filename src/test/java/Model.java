import java.util.ArrayDeque;
import java.util.ArrayList;
import java.util.Arrays;
import java.util.Collections;
import java.util.Comparator;
import java.util.HashMap;
import java.util.HashSet;
import java.util.List;
import java.util.Map;
import java.util.PriorityQueue;
import java.util.Set;
import java.util.TreeMap;
import java.util.TreeSet;

/**
 * The document a second time, with the whole Java library and by the slowest plain means: every way
 * is listed, every set of corners is tried, every state is copied. The class is compared with it.
 */
final class Model {
    static final int NONE = -1, UNKNOWN = -1000000001, OUTSIDE = -1000000002, NOT = -1000000003, FULL = -1000000004;

    record Corner(int a, int b, int sort, int k, int l, int price) { }
    record Street(int insult, int yes) { }
    record Entry(int from, int to, int said, int heard) { }
    record Place(int street, int word) { }
    record Way(int pence, List<Integer> corners) { }

    /** All of section 2. */
    static final class Life {
        Map<Integer, Integer> heard = new TreeMap<>();
        Set<Set<Integer>> feuds = new HashSet<>();
        Set<Integer> shut = new TreeSet<>();
        Set<Integer> mended = new TreeSet<>();
        List<Entry> log = new ArrayList<>();
        int pence;
        int husbands;

        Life copy() {
            Life c = new Life();
            c.heard.putAll(heard);
            c.feuds.addAll(feuds);
            c.shut.addAll(shut);
            c.mended.addAll(mended);
            c.log.addAll(log);
            c.pence = pence;
            c.husbands = husbands;
            return c;
        }
    }

    private final StringBuilder text = new StringBuilder();
    private int faultAt = NONE;
    private boolean stands;
    private int n;
    private List<Street> streets = new ArrayList<>();
    private List<Corner> corners = new ArrayList<>();
    private Life life = new Life();
    private final ArrayDeque<Life> undo = new ArrayDeque<>();
    private final Life[] images = new Life[2];
    private final long[] imageSeeds = new long[2];
    private final List<int[]> seen = new ArrayList<>();
    private final List<int[]> book = new ArrayList<>();
    private long seed;

    // ---- the text: cut into tokens first, then each token is judged in its place

    private static final class Fault extends RuntimeException {
        private static final long serialVersionUID = 1L;
        final int number;
        final int at;
        Fault(int number, int at) {
            super("fault");
            this.number = number;
            this.at = at;
        }
    }

    private record Token(String s, int at) {
        boolean isNumber() { return Character.isDigit(s.charAt(0)) && s.charAt(0) < 128; }
    }

    private static List<Token> tokens(String s) {
        List<Token> list = new ArrayList<>();
        for (int i = 0; i < s.length(); ) {
            int j = i + 1;
            if (s.charAt(i) >= '0' && s.charAt(i) <= '9') {
                while (j < s.length() && s.charAt(j) >= '0' && s.charAt(j) <= '9') j++;
                list.add(new Token(s.substring(i, j), i));
            } else if (s.charAt(i) != ' ') {
                list.add(new Token(s.substring(i, j), i));
            }
            i = j;
        }
        return list;
    }

    private static final class Parse {
        final List<Token> list;
        final int end;
        int next = 0;
        int n = 0;
        List<Street> streets = new ArrayList<>();
        List<Corner> corners = new ArrayList<>();

        Parse(String s) {
            list = tokens(s);
            end = s.length();
        }

        int place() { return next < list.size() ? list.get(next).at() : end; }

        int number(int low, int high) {
            int at = place();
            if (next == list.size() || !list.get(next).isNumber()) throw new Fault(1, at);
            String s = list.get(next++).s();
            if (s.length() > 3 || Integer.parseInt(s) < low || Integer.parseInt(s) > high) throw new Fault(2, at);
            return Integer.parseInt(s);
        }

        void end() {
            if (next == list.size() || !list.get(next).s().equals(";")) throw new Fault(1, place());
            next++;
        }

        void all() {
            while (next < list.size()) {
                String s = list.get(next).s();
                int at = place();
                if (next == 0 && !s.equals("t")) throw new Fault(1, at);
                if (next > 0 && s.equals("t")) throw new Fault(3, at);
                if (s.equals("s") && streets.size() == 7) throw new Fault(3, at);
                if (s.equals("i") && corners.size() == 10) throw new Fault(3, at);
                next++;
                if (s.equals("t")) {
                    n = number(2, 8);
                } else if (s.equals("s")) {
                    int f = number(0, n - 1);
                    int yAt = place();
                    int y = number(0, n - 1);
                    if (f == y) throw new Fault(4, yAt);
                    streets.add(new Street(f, y));
                } else if (s.equals("i")) {
                    int a = number(0, streets.size() - 1);
                    int bAt = place();
                    int b = number(0, streets.size() - 1);
                    for (Corner c : corners) {
                        if (Set.of(c.a(), c.b()).containsAll(List.of(a, b))) throw new Fault(4, bAt);
                    }
                    if (a == b) throw new Fault(4, bAt);
                    corners.add(new Corner(a, b, number(0, 3), number(0, n - 1), number(0, n - 1), number(0, 99)));
                } else {
                    throw new Fault(1, at);
                }
                end();
            }
        }
    }

    int feed(int letter) {
        if (letter < 0 || letter > 255) return OUTSIDE;
        if (text.length() == 240) return FULL;
        text.append((char) letter);
        return text.length();
    }

    int town() {
        Parse p = new Parse(text.toString());
        text.setLength(0);
        try {
            p.all();
        } catch (Fault f) {
            faultAt = f.at;
            return -10 - f.number;
        }
        faultAt = NONE;
        stands = p.n > 0;
        n = p.n;
        streets = p.streets;
        corners = p.corners;
        life = new Life();
        undo.clear();
        images[0] = null;
        images[1] = null;
        seen.clear();
        book.clear();
        return streets.size();
    }

    int fault() { return faultAt; }

    int told(int what) {
        int[] all = {n, streets.size(), corners.size(), text.length(), life.pence, life.husbands, life.feuds.size(),
            set(life.shut), everywhere(), blame(), life.log.size(), seen.size(), book.size(), undo.size()};
        return what < 0 || what >= all.length ? OUTSIDE : all[what];
    }

    private static int set(Iterable<Integer> members) {
        int s = 0;
        for (int k : members) s |= 1 << k;
        return s;
    }

    private boolean noStreet(int a) { return a < 0 || a >= streets.size(); }

    private boolean noPair(int a, int b) { return noStreet(a) || noStreet(b) || a == b; }

    private boolean noCorner(int i) { return i < 0 || i >= corners.size(); }

    private boolean noWord(int w) { return w < 0 || w >= n; }

    private boolean noSaying(int saying) {
        String s = Integer.toString(saying);
        if (saying <= 0 || s.length() > 4) return true;
        for (char c : s.toCharArray()) {
            if (c < '1' || c - '0' > n) return true;
        }
        return false;
    }

    int street(int a, int what) {
        if (noStreet(a)) return UNKNOWN;
        if (what == 0) return streets.get(a).insult();
        if (what == 1) return streets.get(a).yes();
        if (what == 2) return life.heard.getOrDefault(a, 0);
        if (what != 3) return OUTSIDE;
        Set<Integer> with = new TreeSet<>();
        for (Set<Integer> f : life.feuds) {
            if (f.contains(a)) with.addAll(f);
        }
        with.remove(a);
        return set(with);
    }

    private int sortNow(int i) { return life.mended.contains(i) ? 3 : corners.get(i).sort(); }

    int corner(int i, int what) {
        if (noCorner(i)) return UNKNOWN;
        Corner c = corners.get(i);
        int[] all = {c.a(), c.b(), sortNow(i), c.k(), c.l(), c.price(), life.shut.contains(i) ? 1 : 0};
        return what < 0 || what > 6 ? OUTSIDE : all[what];
    }

    int logged(int i, int what) {
        if (what < 0 || what > 3) return OUTSIDE;
        if (i < 0 || i >= life.log.size()) return NONE;
        Entry e = life.log.get(life.log.size() - 1 - i);
        return new int[] {e.from(), e.to(), e.said(), e.heard()}[what];
    }

    // ---- what is done

    private void remember() {
        undo.addLast(life.copy());
        if (undo.size() > 16) undo.removeFirst();
    }

    private static int table(int sort, int k, int l, int n, int w) {
        if (sort == 0 && w == l) return k;
        if (sort <= 1 && w == k) return l;
        return sort == 2 ? (w + k) % n : w;
    }

    private int put(int i, boolean back, int w) {
        Corner c = corners.get(i);
        int sort = sortNow(i);
        return table(sort, back && sort == 2 ? n - c.k() : c.k(), c.l(), n, w);
    }

    private int putSaying(int i, boolean back, int saying) {
        StringBuilder s = new StringBuilder();
        for (char c : Integer.toString(saying).toCharArray()) s.append(put(i, back, c - '1') + 1);
        return Integer.parseInt(s.toString());
    }

    private static boolean contains(int saying, int w) { return Integer.toString(saying).indexOf('1' + w) >= 0; }

    private void hear(int from, int to, int said, int heard, int price) {
        life.pence = Math.min(999999, life.pence + price);
        life.heard.put(to, heard);
        Set<Integer> two = Set.of(from, to);
        if (contains(heard, streets.get(to).insult())) {
            life.feuds.add(two);
        } else if (contains(heard, streets.get(to).yes()) && !life.feuds.remove(two)) {
            life.husbands = Math.min(999999, life.husbands + 1);
        }
        life.log.add(new Entry(from, to, said, heard));
        if (life.log.size() > 20) life.log.remove(0);
    }

    int say(int i, boolean back, int saying) {
        if (noCorner(i)) return UNKNOWN;
        if (noSaying(saying)) return OUTSIDE;
        if (life.shut.contains(i)) return NOT;
        remember();
        Corner c = corners.get(i);
        int heard = putSaying(i, back, saying);
        hear(back ? c.b() : c.a(), back ? c.a() : c.b(), saying, heard, c.price());
        return heard;
    }

    private void listWays(int at, int b, Set<Integer> been, Way soFar, List<Corner> plan, Set<Integer> shut, List<Way> all) {
        if (at == b) {
            all.add(soFar);
            return;
        }
        for (int i = 0; i < plan.size(); i++) {
            Corner c = plan.get(i);
            if (shut.contains(i) || c.a() != at && c.b() != at) continue;
            int next = c.a() == at ? c.b() : c.a();
            if (been.contains(next)) continue;
            Set<Integer> more = new HashSet<>(been);
            more.add(next);
            List<Integer> chain = new ArrayList<>(soFar.corners());
            chain.add(i);
            listWays(next, b, more, new Way(soFar.pence() + c.price(), chain), plan, shut, all);
        }
    }

    private static int compareChains(Way x, Way y) {
        return Arrays.compare(x.corners().stream().mapToInt(i -> i).toArray(), y.corners().stream().mapToInt(i -> i).toArray());
    }

    private Way bestWay(int a, int b, List<Corner> plan) {
        List<Way> all = new ArrayList<>();
        listWays(a, b, Set.of(a), new Way(0, List.of()), plan, life.shut, all);
        Comparator<Way> order = Comparator.comparingInt(Way::pence);
        order = order.thenComparingInt(w -> w.corners().size()).thenComparing(Model::compareChains);
        return all.isEmpty() ? null : Collections.min(all, order);
    }

    private int carry(int a, Way way, int saying) {
        int at = a;
        int s = saying;
        for (int i : way.corners()) {
            Corner c = corners.get(i);
            s = putSaying(i, c.b() == at, s);
            at = c.a() + c.b() - at;
        }
        return s;
    }

    int send(int a, int b, int saying) {
        if (noPair(a, b)) return UNKNOWN;
        if (noSaying(saying)) return OUTSIDE;
        Way way = bestWay(a, b, corners);
        if (way == null) return NOT;
        remember();
        int heard = carry(a, way, saying);
        hear(a, b, saying, heard, way.pence());
        return heard;
    }

    int shut(int i, boolean is) {
        if (noCorner(i)) return UNKNOWN;
        remember();
        return (is ? !life.shut.add(i) : life.shut.remove(i)) ? 1 : 0;
    }

    int mend(int i) {
        if (noCorner(i)) return UNKNOWN;
        remember();
        int was = sortNow(i);
        life.mended.add(i);
        return was;
    }

    int quarrel(int a, int b, boolean is) {
        if (noPair(a, b)) return UNKNOWN;
        remember();
        Set<Integer> two = Set.of(a, b);
        return (is ? !life.feuds.add(two) : life.feuds.remove(two)) ? 1 : 0;
    }

    private int draw(int of) {
        seed = (seed * 1103515245L + 12345L) % (1L << 31);
        return (int) (seed / 65536 % of);
    }

    int drift(int days) {
        if (days < 1 || days > 60) return OUTSIDE;
        if (!stands) return NOT;
        remember();
        for (int d = 0; d < days && streets.size() > 1; d++) {
            int a = draw(streets.size());
            int b = draw(streets.size());
            int w = draw(n);
            Way way = a == b ? null : bestWay(a, b, corners);
            if (way != null) hear(a, b, w + 1, carry(a, way, w + 1), way.pence());
            if (corners.isEmpty() || draw(8) != 0) continue;
            int i = draw(corners.size());
            if (!life.shut.remove(i)) life.shut.add(i);
        }
        return life.pence;
    }

    int undo() {
        if (undo.isEmpty()) return NOT;
        life = undo.removeLast();
        return undo.size();
    }

    // ---- tried

    int over(int i, boolean back, int w) { return noCorner(i) || noWord(w) ? UNKNOWN : put(i, back, w); }

    int becomes(int a, int b, int w) {
        if (noPair(a, b) || noWord(w)) return UNKNOWN;
        Way way = bestWay(a, b, corners);
        return way == null ? NONE : carry(a, way, w + 1) - 1;
    }

    int way(int a, int b, int what) {
        if (noPair(a, b)) return UNKNOWN;
        if (what < 0 || what > 2) return OUTSIDE;
        Way way = bestWay(a, b, corners);
        if (way == null) return NONE;
        return new int[] {way.pence(), way.corners().size(), way.corners().get(0)}[what];
    }

    /** Where one corner leads from a place, with the pence. */
    private Map<Place, Integer> steps(Place p) {
        Map<Place, Integer> result = new HashMap<>();
        for (int i = 0; i < corners.size(); i++) {
            Corner c = corners.get(i);
            if (life.shut.contains(i)) continue;
            if (c.a() == p.street()) result.merge(new Place(c.b(), put(i, false, p.word())), c.price(), Math::min);
            if (c.b() == p.street()) result.merge(new Place(c.a(), put(i, true, p.word())), c.price(), Math::min);
        }
        return result;
    }

    private Set<Place> stepAll(Set<Place> from) {
        Set<Place> result = new HashSet<>();
        for (Place p : from) result.addAll(steps(p).keySet());
        return result;
    }

    private int fewest(Place from, Place to, int least) {
        Set<Place> level = Set.of(from);
        for (int k = 0; k <= 130; k++) {
            if (k >= least && level.contains(to)) return k;
            level = stepAll(level);
        }
        return NONE;
    }

    private int cheapest(Place from, Place to) {
        record Open(Place p, int pence) { }
        PriorityQueue<Open> open = new PriorityQueue<>(Comparator.comparingInt(Open::pence));
        Set<Place> closed = new HashSet<>();
        open.add(new Open(from, 0));
        while (!open.isEmpty()) {
            Open o = open.remove();
            if (!closed.add(o.p())) continue;
            if (o.p().equals(to)) return o.pence();
            steps(o.p()).forEach((q, price) -> open.add(new Open(q, o.pence() + price)));
        }
        return NONE;
    }

    int through(int a, int w, int b, int v, int what) {
        if (noStreet(a) || noStreet(b) || noWord(w) || noWord(v)) return UNKNOWN;
        if (what != 0 && what != 1) return OUTSIDE;
        Place from = new Place(a, w);
        Place to = new Place(b, v);
        return what == 0 ? fewest(from, to, 0) : cheapest(from, to);
    }

    int code(int a, int b, int v) {
        if (noPair(a, b) || noWord(v)) return UNKNOWN;
        Set<Integer> words = new TreeSet<>();
        for (int w = 0; w < n; w++) {
            if (becomes(a, b, w) == v) words.add(w);
        }
        return set(words);
    }

    int origin(int b, int v, int by, int a) {
        if (noStreet(b) || noWord(v) || a != NONE && noStreet(a)) return UNKNOWN;
        if (by < 0 || by > 9) return OUTSIDE;
        int pairs = 0;
        Set<Integer> words = new TreeSet<>();
        for (int s = 0; s < streets.size(); s++) {
            for (int w = 0; w < n; w++) {
                Set<Place> level = Set.of(new Place(s, w));
                for (int k = 0; k < by; k++) level = stepAll(level);
                if (!level.contains(new Place(b, v))) continue;
                pairs++;
                if (s == a) words.add(w);
            }
        }
        return a == NONE ? pairs : set(words);
    }

    int ring(int a, int w, int v) {
        if (noStreet(a) || noWord(w) || noWord(v)) return UNKNOWN;
        return fewest(new Place(a, w), new Place(a, v), 1);
    }

    private int everywhere() {
        Set<Integer> words = new TreeSet<>();
        for (int w = 0; w < n; w++) words.add(w);
        for (int i = 0; i < corners.size(); i++) {
            int corner = i;
            words.removeIf(w -> put(corner, false, w) != w || put(corner, true, w) != w);
        }
        return set(words);
    }

    private int blame() {
        Map<Integer, Integer> times = new TreeMap<>();
        for (Entry e : life.log) {
            int insult = streets.get(e.to()).insult();
            if (contains(e.heard(), insult)) times.merge(insult, 1, Integer::sum);
        }
        int best = NONE;
        for (Map.Entry<Integer, Integer> t : times.entrySet()) {
            if (best == NONE || t.getValue() > times.get(best)) best = t.getKey();
        }
        return best;
    }

    int more(int what) {
        if (what != 0 && what != 1) return OUTSIDE;
        if (!stands) return NOT;
        TreeMap<Integer, Integer> totals = new TreeMap<>();
        for (int a = 0; a < streets.size(); a++) {
            for (int b = a + 1; b < streets.size(); b++) {
                Set<Integer> two = Set.of(a, b);
                if (corners.stream().anyMatch(c -> Set.of(c.a(), c.b()).equals(two))) continue;
                List<Corner> plan = new ArrayList<>(corners);
                plan.add(new Corner(a, b, 3, 0, 0, 0));
                int total = 0;
                for (int x = 0; x < streets.size(); x++) {
                    for (int y = 0; y < streets.size(); y++) {
                        Way way = x == y ? null : bestWay(x, y, plan);
                        if (x != y) total += way == null ? 100 : way.pence();
                    }
                }
                totals.put(10 * a + b, total);
            }
        }
        if (totals.isEmpty()) return NONE;
        int least = Collections.min(totals.values());
        if (what == 1) return least;
        for (Map.Entry<Integer, Integer> t : totals.entrySet()) {
            if (t.getValue() == least) return t.getKey();
        }
        throw new IllegalStateException();
    }

    private boolean gets(int a, int b, int alsoShut) {
        Set<Integer> reached = new HashSet<>(Set.of(a));
        for (int round = 0; round < 7; round++) {
            for (int i = 0; i < corners.size(); i++) {
                Corner c = corners.get(i);
                if (life.shut.contains(i) || (alsoShut >> i & 1) == 1) continue;
                if (reached.contains(c.a())) reached.add(c.b());
                if (reached.contains(c.b())) reached.add(c.a());
            }
        }
        return reached.contains(b);
    }

    int cut(int a, int b, int what) {
        if (noPair(a, b)) return UNKNOWN;
        if (what != 0 && what != 1) return OUTSIDE;
        int best = -1;
        for (int s = 0; s < 1 << corners.size(); s++) {
            boolean fewer = best < 0 || Integer.bitCount(s) < Integer.bitCount(best);
            if (fewer && !gets(a, b, s)) best = s;
        }
        return what == 0 ? best : Integer.bitCount(best);
    }

    int walk(int a) {
        if (noStreet(a)) return UNKNOWN;
        record Been(int at, Set<Integer> all) { }
        Set<Been> level = Set.of(new Been(a, Set.of(a)));
        for (int k = 0; k < 40; k++) {
            for (Been been : level) {
                if (been.all().size() == streets.size()) return k;
            }
            Set<Been> next = new HashSet<>();
            for (Been been : level) {
                for (Corner c : corners) {
                    if (c.a() != been.at() && c.b() != been.at()) continue;
                    int to = c.a() + c.b() - been.at();
                    Set<Integer> all = new HashSet<>(been.all());
                    all.add(to);
                    next.add(new Been(to, all));
                }
            }
            level = next;
        }
        return NONE;
    }

    int holds(int by, int q) {
        if (by < 0 || by > 60 || q < 0 || q > 100) return OUTSIDE;
        java.math.BigInteger x = java.math.BigInteger.valueOf(1000000000);
        for (int i = 0; i < by; i++) x = x.multiply(java.math.BigInteger.valueOf(q)).divide(java.math.BigInteger.valueOf(100));
        return x.intValueExact();
    }

    // ---- what is seen

    int see(int w, int v) {
        if (noWord(w) || noWord(v)) return UNKNOWN;
        if (seen.size() == 6) return FULL;
        seen.add(new int[] {w, v});
        return seen.size();
    }

    private List<int[]> rows() {
        List<int[]> rows = new ArrayList<>();
        for (int k = 0; k < n; k++) for (int l = k + 1; l < n; l++) rows.add(new int[] {0, k, l});
        for (int k = 0; k < n; k++) for (int l = 0; l < n; l++) if (k != l) rows.add(new int[] {1, k, l});
        for (int k = 1; k < n; k++) rows.add(new int[] {2, k, 0});
        if (stands) rows.add(new int[] {3, 0, 0});
        rows.removeIf(r -> seen.stream().anyMatch(s -> table(r[0], r[1], r[2], n, s[0]) != s[1]));
        return rows;
    }

    int slips(int what) {
        if (what != 0 && what != 1) return OUTSIDE;
        List<int[]> rows = rows();
        if (what == 0) return rows.size();
        return rows.isEmpty() ? NONE : 100 * rows.get(0)[0] + 10 * rows.get(0)[1] + rows.get(0)[2];
    }

    int tryNext() {
        List<int[]> rows = rows();
        int best = NONE;
        int least = Integer.MAX_VALUE;
        for (int w = 0; w < n && !rows.isEmpty(); w++) {
            Map<Integer, Integer> parts = new TreeMap<>();
            for (int[] r : rows) parts.merge(table(r[0], r[1], r[2], n, w), 1, Integer::sum);
            int greatest = Collections.max(parts.values());
            if (parts.size() > 1 && greatest < least) {
                least = greatest;
                best = w;
            }
        }
        return best;
    }

    int write(int a, int saying) {
        if (noStreet(a)) return UNKNOWN;
        if (saying != 0 && noSaying(saying)) return OUTSIDE;
        if (book.size() == 15) return FULL;
        book.add(new int[] {a, saying});
        return book.size();
    }

    int tear() {
        int had = seen.size() + book.size();
        seen.clear();
        book.clear();
        return had;
    }

    int judge() {
        for (int i = 0; i < book.size(); i++) {
            if (!life.heard.getOrDefault(book.get(i)[0], 0).equals(book.get(i)[1])) return i;
        }
        return NONE;
    }

    // ---- draws, images

    int seed(int v) {
        if (v < 0) return OUTSIDE;
        int was = (int) seed;
        seed = v;
        return was;
    }

    int keep(int i) {
        if (i != 0 && i != 1) return UNKNOWN;
        images[i] = life.copy();
        imageSeeds[i] = seed;
        undo.clear();
        return 1;
    }

    int goBack(int i) {
        if (i != 0 && i != 1) return UNKNOWN;
        if (images[i] == null) return NOT;
        life = images[i].copy();
        seed = imageSeeds[i];
        undo.clear();
        return 1;
    }
}
