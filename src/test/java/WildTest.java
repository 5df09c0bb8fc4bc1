import java.lang.reflect.InvocationTargetException;
import java.lang.reflect.Method;
import java.lang.reflect.Modifier;
import java.util.Arrays;
import java.util.Comparator;
import java.util.Random;

/**
 * No call may ever throw or fail to end, whatever its arguments and whatever came ahead of it: wild calls, far more of
 * an object than the 512 whose answers are promised, so that only throwing is looked for here.
 */
public final class WildTest {
    private static final int CALLS = 6000;
    private static final int[] FAR = {Integer.MIN_VALUE, Integer.MIN_VALUE + 1, -1000000001, -65536, -10, 10, 31, 32, 33, 63, 64,
        100, 101, 240, 241, 255, 256, 9999, 10000, 65535, 65536, 1000000000, Integer.MAX_VALUE - 1, Integer.MAX_VALUE};
    /** The most words, streets and corners of every sort. */
    private static final String MIXED = "t8;s0 7;s7 0;s1 2;s2 1;s3 4;s4 3;s5 6;i0 1 0 0 7 0;i1 2 1 3 4 1;i2 3 2 7 0 99;i3 4 2 1 7 5;i4 5 0 2 2 0;"
        + "i5 6 3 1 2 3;i6 0 1 7 0 0;i0 3 2 4 4 10;i1 4 0 5 6 2;i2 6 2 0 0 7;";
    private static final String LETTERS = "tsi;;;0123456789   x";
    private static final Method[] FACE = face();
    private static int wrong = 0;

    public static void main(String[] args) throws IllegalAccessException {
        int objects = args.length > 0 ? Integer.parseInt(args[0]) : 60;
        for (int run = 0; run < objects; run++) wild(new Random(run));
        System.out.println(wrong == 0 ? objects * CALLS + " wild calls ended" : wrong + " wild calls threw");
        if (wrong != 0) System.exit(1);
    }

    /** In an order of their own, since the machine gives them in none. */
    private static Method[] face() {
        return Arrays.stream(StreetTongues.class.getDeclaredMethods()).filter(m -> Modifier.isPublic(m.getModifiers()))
            .sorted(Comparator.comparing(Method::getName)).toArray(Method[]::new);
    }

    private static void wild(Random random) throws IllegalAccessException {
        StreetTongues x = new StreetTongues();
        for (int k = 0; k < CALLS; k++) {
            if (k % 200 == 0) tell(x, random);
            Method m = FACE[random.nextInt(FACE.length)];
            // a town of wild letters hardly ever stands, so most are left to tell()
            if (m.getName().equals("town") && random.nextInt(50) != 0) continue;
            Object[] values = new Object[m.getParameterCount()];
            for (int p = 0; p < values.length; p++) values[p] = m.getParameterTypes()[p] == boolean.class ? random.nextBoolean() : (Object) value(random);
            try {
                m.invoke(x, values);
            } catch (InvocationTargetException e) {
                wrong++;
                System.out.println(m.getName() + Arrays.toString(values) + " threw " + e.getCause());
            }
        }
    }

    private static int value(Random random) {
        switch (random.nextInt(24)) {
            case 0: return FAR[random.nextInt(FAR.length)];
            case 1: return random.nextInt();
            case 2: return random.nextInt(10000);
            case 3: return random.nextInt(60);
            case 4: return -1;
            case 5: return random.nextInt(8);
            default: return random.nextInt(4);
        }
    }

    private static void tell(StreetTongues x, Random random) {
        x.town();
        String text = new String[] {Edges.SQUARE, Edges.TEN, Edges.CHAIN, MIXED, Edges.SMALL, Edges.SEVEN, "t8;", "t2;s0 1;", ""}[random.nextInt(random.nextInt(9) + 1)];
        for (char c : text.toCharArray()) x.feed(random.nextInt(2000) == 0 ? LETTERS.charAt(random.nextInt(LETTERS.length())) : c);
        x.town();
    }
}
