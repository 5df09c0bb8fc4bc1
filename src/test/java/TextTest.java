import java.util.Set;
import java.util.TreeSet;

/**
 * Section 1, letter by letter: each text is spoilt at each of its letters in every way by one letter, and the class
 * must find the first fault where the model finds it, or the same town.
 */
public final class TextTest {
    private static final String FULL_TOWN = Edges.TEN;
    /** Blanks wherever they may stand, figures in front, a street behind the first corner. */
    private static final String LOOSE = " t 3 ; s 002 0;s1   2 ;i 01 0 2 001 0 099 ;  s0 1;i2 0 0 0 2 0; i2 1 1 2 2 7 ;  ";
    private static final String BARE = "t8;";
    /** The words, all figures, what is taken for a figure or a blank at a hasty look, and the last letters that there are. */
    private static final String LETTERS = "tsi;0123456789 /:STI\t\n-x" + (char) 0 + (char) 160 + (char) 178 + (char) 255;
    private static final Set<Integer> answers = new TreeSet<>();
    private static int texts = 0;
    private static int wrong = 0;

    public static void main(String[] args) {
        spoilAll(Edges.SQUARE);
        spoilAll(FULL_TOWN);
        spoilAll(LOOSE);
        spoilAll(BARE);
        spoilAll("");
        for (int fault = 1; fault <= 4; fault++) {
            if (!answers.contains(-10 - fault)) fail("no text has fault " + fault);
        }
        System.out.println(wrong == 0 ? texts + " texts are read as by the model" : wrong + " of " + texts + " texts are not");
        if (wrong != 0) System.exit(1);
    }

    private static void spoilAll(String text) {
        read(text);
        for (int at = 0; at <= text.length(); at++) {
            String ahead = text.substring(0, at);
            String behind = text.substring(at);
            read(ahead);
            read(behind);
            for (char c : LETTERS.toCharArray()) {
                read(ahead + c + behind);
                if (at < text.length()) read(ahead + c + behind.substring(1));
            }
            if (at == text.length()) continue;
            read(ahead + behind.substring(1));
            read(ahead + behind.charAt(0) + behind);
            if (at + 1 < text.length()) read(ahead + behind.charAt(1) + behind.charAt(0) + behind.substring(2));
        }
        clausesAgain(text);
    }

    /** Each clause once more at each place where a clause can stand. */
    private static void clausesAgain(String text) {
        for (String clause : text.split("(?<=;)")) {
            for (int at = 0; at <= text.length(); at++) {
                if (at == 0 || text.charAt(at - 1) == ';') read(text.substring(0, at) + clause + text.substring(at));
            }
        }
    }

    private static void read(String text) {
        texts++;
        StreetTongues x = new StreetTongues();
        Model m = new Model();
        for (char c : text.toCharArray()) {
            if (x.feed(c) != m.feed(c)) fail("feeding '" + text + "'");
        }
        int got = x.town();
        int due = m.town();
        answers.add(due);
        if (got != due) fail("town() of '" + text + "' answered " + got + ", due is " + due);
        if (x.fault() != m.fault()) fail("fault() of '" + text + "' answered " + x.fault() + ", due is " + m.fault());
        for (int what = 0; what < 4; what++) {
            if (x.told(what) != m.told(what)) fail("told(" + what + ") behind '" + text + "'");
        }
        for (int a = 0; a < m.told(1); a++) {
            for (int what = 0; what < 2; what++) {
                if (x.street(a, what) != m.street(a, what)) fail("street(" + a + ", " + what + ") of '" + text + "'");
            }
        }
        for (int i = 0; i < m.told(2); i++) {
            for (int what = 0; what < 7; what++) {
                if (x.corner(i, what) != m.corner(i, what)) fail("corner(" + i + ", " + what + ") of '" + text + "'");
            }
        }
    }

    private static void fail(String what) {
        wrong++;
        if (wrong <= 20) System.out.println(what);
    }
}
