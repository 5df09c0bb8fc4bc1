import java.util.Random;

/** Long runs of calls by fixed draws: the class and the model must answer each call alike. */
public final class ModelTest {
    private static final int CALLS = 512;
    private static int wrong = 0;
    private final Random random;
    private final int run;
    private final StreetTongues x = new StreetTongues();
    private final Model m = new Model();
    private final StringBuilder calls = new StringBuilder();
    private int used = 0;
    private int streets = 0;
    private int words = 0;
    private int corners = 0;
    private boolean wentWrong = false;

    private ModelTest(int run) {
        this.run = run;
        random = new Random(run);
    }

    public static void main(String[] args) {
        int runs = args.length > 0 ? Integer.parseInt(args[0]) : 1500;
        int from = args.length > 1 ? Integer.parseInt(args[1]) : 0;
        for (int run = from; run < from + runs; run++) {
            new ModelTest(run).go();
        }
        System.out.println(wrong == 0 ? runs + " runs are as the model's" : wrong + " runs went wrong");
        if (wrong != 0) System.exit(1);
    }

    private void go() {
        if (random.nextInt(4) == 0) free(random.nextInt(6));
        while (used < CALLS && !wentWrong) {
            tell(chance(6) ? spoilt(townText()) : townText());
            streets = m.told(1);
            words = m.told(0);
            corners = m.told(2);
            free(random.nextInt(random.nextInt(3) == 0 ? 400 : 60));
        }
        if (wentWrong) wrong++;
    }

    private void free(int calls) {
        for (int i = 0; i < calls && used < CALLS && !wentWrong; i++) one();
    }

    private boolean chance(int of) { return random.nextInt(of) == 0; }

    private void same(String call, int got, int due) {
        used++;
        calls.append("  ").append(call).append(" = ").append(due).append('\n');
        if (got == due || wentWrong) return;
        wentWrong = true;
        System.out.println("run " + run + ": " + call + " answered " + got + ", the model says " + due);
        if (wrong == 0) System.out.println(calls);
    }

    /** A text for which too few of the object's calls are left ends the run. */
    private void tell(String text) {
        if (used + text.length() + 2 > CALLS) {
            used = CALLS;
            return;
        }
        for (char c : text.toCharArray()) same("feed(" + (int) c + ")", x.feed(c), m.feed(c));
        same("town() of '" + text + "'", x.town(), m.town());
        same("fault()", x.fault(), m.fault());
    }

    private String gap() { return chance(12) ? "  ".substring(random.nextInt(2)) : ""; }

    private String number(int v) {
        if (chance(25)) return "0" + v + " ";
        return v + " ";
    }

    private String townText() {
        if (chance(25)) return "   ".substring(random.nextInt(4));
        int n = 2 + random.nextInt(7);
        StringBuilder s = new StringBuilder(gap() + "t" + gap() + n + gap() + ";");
        int count = chance(8) ? random.nextInt(8) : 3 + random.nextInt(5);
        for (int a = 0; a < count; a++) {
            int f = random.nextInt(n);
            int y = (f + 1 + random.nextInt(n - 1)) % n;
            s.append(gap()).append("s").append(number(f)).append(y).append(gap()).append(";");
        }
        boolean[] joined = new boolean[70];
        int wanted = chance(3) ? 10 : random.nextInt(11);
        int prices = chance(2) ? 3 : 100;
        for (int i = 0, tries = 0; i < wanted && tries < 40 && count > 1; tries++) {
            int a = random.nextInt(count);
            int b = random.nextInt(count);
            if (a == b || joined[10 * a + b]) continue;
            joined[10 * a + b] = true;
            joined[10 * b + a] = true;
            String clause = "i" + number(a) + number(b) + number(random.nextInt(4)) + number(random.nextInt(n))
                + number(random.nextInt(n)) + random.nextInt(prices) + gap() + ";";
            if (s.length() + clause.length() > 240) break;
            s.append(clause);
            i++;
        }
        return s.length() > 240 ? s.substring(0, 240) : s.toString();
    }

    private String spoilt(String text) {
        StringBuilder s = new StringBuilder(text);
        String letters = "tsi;0123456789  x\t\u00e9";
        for (int k = random.nextInt(2); k >= 0 && s.length() > 0; k--) {
            int at = random.nextInt(s.length());
            char c = letters.charAt(random.nextInt(letters.length()));
            switch (random.nextInt(5)) {
                case 0: s.deleteCharAt(at); break;
                case 1: s.setCharAt(at, c); break;
                case 2: s.setLength(at); break;
                case 3: s.append("s0 1;s1 0;"); break;
                default: s.insert(at, c); break;
            }
        }
        return s.length() > 240 ? s.substring(0, 240) : s.toString();
    }

    /** Mostly a number below the bound; now and then one beside it, or far away. */
    private int near(int bound) {
        if (chance(30)) return new int[] {-1, bound, bound + 1, -2, Integer.MAX_VALUE, Integer.MIN_VALUE}[random.nextInt(6)];
        return bound > 0 ? random.nextInt(bound) : 0;
    }

    private int saying() {
        if (chance(25)) return new int[] {0, -1, 11111, 10, 9, 99, 101, 1110, -11, Integer.MIN_VALUE}[random.nextInt(10)];
        int s = 0;
        int beyond = chance(25) ? 1 : 0;
        for (int figures = 1 + random.nextInt(4); figures > 0; figures--) s = 10 * s + 1 + random.nextInt(Math.max(1, words + beyond));
        return s;
    }

    private void one() {
        int a = near(streets);
        int b = near(streets);
        int i = near(corners);
        int w = near(words);
        int v = near(words);
        boolean flag = random.nextBoolean();
        int kind = random.nextInt(40);
        if (kind < 12) {
            doing(kind, a, b, i, flag);
        } else if (kind < 27) {
            trying(kind, a, b, i, w, v, flag);
        } else {
            seeing(kind, a, w, v);
        }
    }

    private void doing(int kind, int a, int b, int i, boolean flag) {
        int s = saying();
        switch (kind) {
            case 0: case 1: same("say(" + i + ", " + flag + ", " + s + ")", x.say(i, flag, s), m.say(i, flag, s)); break;
            case 2: case 3: case 4: same("send(" + a + ", " + b + ", " + s + ")", x.send(a, b, s), m.send(a, b, s)); break;
            case 5: same("shut(" + i + ", " + flag + ")", x.shut(i, flag), m.shut(i, flag)); break;
            case 6: if (chance(3)) same("mend(" + i + ")", x.mend(i), m.mend(i)); break;
            case 7: same("quarrel(" + a + ", " + b + ", " + flag + ")", x.quarrel(a, b, flag), m.quarrel(a, b, flag)); break;
            case 8: {
                int n = chance(3) ? near(62) : near(8);
                same("drift(" + n + ")", x.drift(n), m.drift(n));
                break;
            }
            case 9: for (int k = chance(6) ? 18 : 1; k > 0 && used < CALLS; k--) same("undo()", x.undo(), m.undo()); break;
            case 10: if (chance(3)) { int k = near(2); same("keep(" + k + ")", x.keep(k), m.keep(k)); } break;
            default: if (chance(3)) { int k = near(2); same("goBack(" + k + ")", x.goBack(k), m.goBack(k)); } break;
        }
    }

    private void trying(int kind, int a, int b, int i, int w, int v, boolean flag) {
        int what = near(2);
        String ab = a + ", " + b + ", ";
        switch (kind) {
            case 12: same("over(" + i + ", " + flag + ", " + w + ")", x.over(i, flag, w), m.over(i, flag, w)); break;
            case 13: same("becomes(" + ab + w + ")", x.becomes(a, b, w), m.becomes(a, b, w)); break;
            case 14: case 15: { int k = near(3); same("way(" + ab + k + ")", x.way(a, b, k), m.way(a, b, k)); break; }
            case 16: case 17:
                same("through(" + a + ", " + w + ", " + b + ", " + v + ", " + what + ")", x.through(a, w, b, v, what), m.through(a, w, b, v, what));
                break;
            case 18: same("code(" + ab + v + ")", x.code(a, b, v), m.code(a, b, v)); break;
            case 19: case 20: {
                int n = near(10);
                int from = chance(2) ? -1 : a;
                same("origin(" + b + ", " + v + ", " + n + ", " + from + ")", x.origin(b, v, n, from), m.origin(b, v, n, from));
                break;
            }
            case 21: case 22: same("ring(" + a + ", " + w + ", " + v + ")", x.ring(a, w, v), m.ring(a, w, v)); break;
            case 23: if (chance(3)) same("more(" + what + ")", x.more(what), m.more(what)); break;
            case 24: same("cut(" + ab + what + ")", x.cut(a, b, what), m.cut(a, b, what)); break;
            case 25: same("walk(" + a + ")", x.walk(a), m.walk(a)); break;
            default: { int n = near(61); int q = near(101); same("holds(" + n + ", " + q + ")", x.holds(n, q), m.holds(n, q)); break; }
        }
    }

    private void seeing(int kind, int a, int w, int v) {
        int what = near(2);
        switch (kind) {
            case 27: case 28: same("see(" + w + ", " + v + ")", x.see(w, v), m.see(w, v)); break;
            case 29: same("slips(" + what + ")", x.slips(what), m.slips(what)); break;
            case 30: same("tryNext()", x.tryNext(), m.tryNext()); break;
            case 31: case 32: {
                int s = chance(3) ? saying() : Math.max(0, m.street(a, 2));
                same("write(" + a + ", " + s + ")", x.write(a, s), m.write(a, s));
                break;
            }
            case 33: if (chance(3)) same("tear()", x.tear(), m.tear()); break;
            case 34: same("judge()", x.judge(), m.judge()); break;
            case 35: if (chance(2)) { int s = chance(4) ? near(1) : random.nextInt(); same("seed(" + s + ")", x.seed(s), m.seed(s)); } break;
            case 36: { int k = near(14); same("told(" + k + ")", x.told(k), m.told(k)); break; }
            case 37: { int k = near(4); same("street(" + a + ", " + k + ")", x.street(a, k), m.street(a, k)); break; }
            case 38: { int i = near(corners); int k = near(7); same("corner(" + i + ", " + k + ")", x.corner(i, k), m.corner(i, k)); break; }
            default: { int i = near(21); int k = near(4); same("logged(" + i + ", " + k + ")", x.logged(i, k), m.logged(i, k)); break; }
        }
    }
}
