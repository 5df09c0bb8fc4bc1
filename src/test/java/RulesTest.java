import java.io.IOException;
import java.lang.reflect.Constructor;
import java.lang.reflect.Field;
import java.lang.reflect.Method;
import java.lang.reflect.Modifier;
import java.nio.file.Files;
import java.nio.file.Path;
import java.util.List;
import java.util.Set;
import java.util.TreeSet;
import java.util.regex.Matcher;
import java.util.regex.Pattern;

/** What a machine can see of LANGUAGE.md, and the document's public face. Run from the project's folder. */
public final class RulesTest {
    private static final String FACE = "feed(int) town() fault() told(int) street(int,int) corner(int,int) logged(int,int)"
        + " say(int,boolean,int) send(int,int,int) shut(int,boolean) mend(int) quarrel(int,int,boolean) drift(int) undo()"
        + " over(int,boolean,int) becomes(int,int,int) way(int,int,int) through(int,int,int,int,int) code(int,int,int)"
        + " origin(int,int,int,int) ring(int,int,int) more(int) cut(int,int,int) walk(int) holds(int,int) see(int,int)"
        + " slips(int) tryNext() write(int,int) tear() judge() seed(int) keep(int) goBack(int)";
    private static final List<String> BARRED = List.of("throw", "throws", "try", "catch", "finally", "synchronized", "assert",
        "->", "::", "package", "System.out", "Random", "Thread", "Exact", "protected", "null");
    private static int wrong = 0;

    public static void main(String[] args) throws IOException {
        face();
        constants();
        for (Class<?> inside : StreetTongues.class.getDeclaredClasses()) inside(inside);
        ask(StreetTongues.class.getDeclaredClasses().length + 1 <= 12, "rule 11: more than twelve classes");
        shape(StreetTongues.class);
        source(Files.readString(Path.of("src/main/java/StreetTongues.java")));
        System.out.println(wrong == 0 ? "the rules are kept" : wrong + " rules are broken");
        if (wrong != 0) System.exit(1);
    }

    private static void ask(boolean kept, String rule) {
        if (!kept) {
            wrong++;
            System.out.println(rule);
        }
    }

    private static void face() {
        Set<String> due = new TreeSet<>(List.of(FACE.split(" ")));
        Set<String> names = new TreeSet<>();
        Set<String> found = new TreeSet<>();
        for (Method m : StreetTongues.class.getDeclaredMethods()) {
            if (Modifier.isPrivate(m.getModifiers())) continue;
            ask(Modifier.isPublic(m.getModifiers()) && m.getReturnType() == int.class, "rule 1: " + m);
            found.add(m.toString().replaceAll(".*StreetTongues\\.", ""));
            names.add(m.getName());
        }
        ask(found.equals(due), "rule 1: the face is " + found);
        for (Method m : StreetTongues.class.getDeclaredMethods()) {
            if (Modifier.isPrivate(m.getModifiers())) ask(!names.contains(m.getName()), "rule 1: a private " + m.getName());
        }
        Constructor<?>[] makers = StreetTongues.class.getDeclaredConstructors();
        ask(makers.length == 1 && Modifier.isPublic(makers[0].getModifiers()), "rule 1: the constructor");
        ask(Modifier.isFinal(StreetTongues.class.getModifiers()), "rule 1: the class is final");
    }

    private static void constants() {
        int[] due = {-1, -1000000001, -1000000002, -1000000003, -1000000004};
        int[] found = {StreetTongues.NONE, StreetTongues.UNKNOWN, StreetTongues.OUTSIDE, StreetTongues.NOT, StreetTongues.FULL};
        ask(java.util.Arrays.equals(due, found), "the constants");
        Set<String> open = new TreeSet<>();
        for (Field f : StreetTongues.class.getDeclaredFields()) {
            if (!Modifier.isPrivate(f.getModifiers())) open.add(f.getName());
        }
        ask(open.equals(Set.of("NONE", "UNKNOWN", "OUTSIDE", "NOT", "FULL")), "rule 1: open fields " + open);
    }

    private static void inside(Class<?> c) {
        ask(Modifier.isStatic(c.getModifiers()), "rule 2: " + c + " is not static");
        ask(c.getDeclaredClasses().length == 0, "rule 2: " + c + " has classes of its own");
        shape(c);
    }

    private static void shape(Class<?> c) {
        int fields = 0;
        for (Field f : c.getDeclaredFields()) {
            if (Modifier.isStatic(f.getModifiers())) ask(Modifier.isFinal(f.getModifiers()), "rule 5: " + f);
            else fields++;
        }
        ask(fields <= 20, "rule 11: fields of " + c);
        for (Method m : c.getDeclaredMethods()) ask(m.getParameterCount() <= 7, "rule 11: " + m);
    }

    private static void source(String source) {
        String code = source.replaceAll("(?s)/\\*.*?\\*/", "").replaceAll("//[^\n]*", "");
        for (String word : BARRED) {
            String bounded = Character.isLetter(word.charAt(0)) ? "\\b" + Pattern.quote(word) : Pattern.quote(word);
            boolean whole = Character.isLowerCase(word.charAt(0));
            ask(!Pattern.compile(bounded + (whole ? "\\b" : "")).matcher(code).find(), "rules 2 to 13: " + word);
        }
        Matcher imports = Pattern.compile("import ([^;]*);").matcher(code);
        while (imports.find()) ask(imports.group(1).equals("java.util.Arrays"), "rule 4: import " + imports.group(1));
        Matcher methods = Pattern.compile("(?m)^( +)[a-z][^;=\n]*\\) \\{\n((?:(?!\\1}).*\n)*)").matcher(code);
        while (methods.find()) ask(methods.group(2).lines().count() <= 60, "rule 11: a long method: " + methods.group().lines().findFirst().get());
        onlyConstructorsMake(code);
    }

    /** The room for all calls is one: no method makes anything, so a run's calls take none of it. */
    private static void onlyConstructorsMake(String code) {
        for (String line : code.split("\n")) {
            if (!line.contains("new ")) continue;
            boolean field = line.matches(" +final [A-Za-z\\[\\]]+ [a-zA-Z]+ = new .*");
            boolean constructor = line.matches("        [a-z]+ = new [A-Z][a-z]+\\([a-z, ]*\\);");
            ask(field || constructor, "rule 12: made outside a constructor: " + line.trim());
        }
    }
}
