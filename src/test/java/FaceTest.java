import java.lang.reflect.Constructor;
import java.lang.reflect.Field;
import java.lang.reflect.Method;
import java.lang.reflect.Modifier;
import java.nio.file.Files;
import java.nio.file.Path;
import java.util.Arrays;
import java.util.List;
import java.util.Set;
import java.util.TreeSet;
import java.util.regex.Matcher;
import java.util.regex.Pattern;
import java.util.stream.Collectors;

/** The public face, and what of LANGUAGE.md can be seen from the class and its text. */
public final class FaceTest {
    private static final Check check = new Check();
    private static final String SOURCE = "src/main/java/RankWheels.java";
    private static final Set<String> FACE = new TreeSet<>(List.of(
            "int type(int)", "int clear()", "int rank()", "int man(int,int)", "int place(int,int)",
            "int wheels()", "int slips(int,int)", "int hops(int)", "int swaps(int,int)", "int minds(int,int)",
            "int speeds(int)", "int undo()", "int now(int)", "int dressed()", "int looks(int,int)", "int mix(int)",
            "int fastest()", "int order(int)", "int inStep()", "int behind(int)", "int post(int,int)",
            "int odds(int,int,int)", "int saw(int,int,int)", "int forget()", "int whose(int)", "int rate(int,int)",
            "int keep(int)", "int back(int)", "int count(int)", "long trace()"));
    /** Words that the rules leave out, each as it would stand in code. */
    private static final List<String> LEFT_OUT = List.of("\\bthrow\\b", "\\btry\\b", "\\bcatch\\b", "\\bsynchronized\\b",
            "\\bassert\\b", "\\bimport\\b", "\\bpackage\\b", "->", "::", "Exact\\b", "\\bstatic\\s*\\{", "\\bObject\\b",
            "\\bnull\\b", "\\bSystem\\.(?!arraycopy\\b)", "@", "\"", "\\bdouble\\b", "\\bfloat\\b");

    /** All of the library that the class uses; rule 4 lists it. */
    private static final Set<String> LIBRARY = Set.of("Math.max", "Math.min", "Math.abs", "System.arraycopy");

    public static void main(String[] args) throws Exception {
        constants();
        publicFace();
        members();
        code(Files.readString(Path.of(SOURCE)));
        check.end("FaceTest");
    }

    private static void constants() {
        check.due("BAD", RankWheels.BAD, -1001);
        check.due("STATE", RankWheels.STATE, -1002);
        check.due("FULL", RankWheels.FULL, -1003);
        check.due("NONE", RankWheels.NONE, -1009);
        check.due("NO", RankWheels.NO, -1000000);
    }

    private static String header(Method m) {
        String types = Arrays.stream(m.getParameterTypes()).map(Class::getName).collect(Collectors.joining(","));
        return m.getReturnType().getName() + " " + m.getName() + "(" + types + ")";
    }

    private static void publicFace() {
        check.holds("public and final", Modifier.isPublic(RankWheels.class.getModifiers())
                && Modifier.isFinal(RankWheels.class.getModifiers()));
        Set<String> found = new TreeSet<>();
        Set<String> hidden = new TreeSet<>();
        for (Method m : RankWheels.class.getDeclaredMethods()) {
            if (Modifier.isPrivate(m.getModifiers())) {
                hidden.add(m.getName());
            } else {
                found.add(header(m));
            }
        }
        check.holds("methods " + found, found.equals(FACE));
        for (Class<?> c : RankWheels.class.getDeclaredClasses()) {
            Arrays.stream(c.getDeclaredMethods()).map(Method::getName).forEach(hidden::add);
        }
        for (String header : FACE) {
            String name = header.substring(header.indexOf(' ') + 1, header.indexOf('('));
            check.holds("no method within is named " + name, !hidden.contains(name));
        }
        Set<String> constants = new TreeSet<>();
        for (Field f : RankWheels.class.getDeclaredFields()) {
            if (!Modifier.isPrivate(f.getModifiers())) {
                constants.add(f.getName());
                check.holds(f + " is public static final int", Modifier.isPublic(f.getModifiers())
                        && Modifier.isStatic(f.getModifiers()) && Modifier.isFinal(f.getModifiers()) && f.getType() == int.class);
            }
        }
        check.holds("constants " + constants, constants.equals(new TreeSet<>(List.of("BAD", "STATE", "FULL", "NONE", "NO"))));
        Constructor<?>[] makers = RankWheels.class.getDeclaredConstructors();
        check.holds("one public constructor", makers.length == 1 && Modifier.isPublic(makers[0].getModifiers())
                && makers[0].getParameterCount() == 0);
    }

    private static void members() {
        Class<?>[] inside = RankWheels.class.getDeclaredClasses();
        check.holds("some twelve classes at most", inside.length < 12);
        for (Class<?> c : inside) {
            check.holds(c + " is static and not public", Modifier.isStatic(c.getModifiers())
                    && !Modifier.isPublic(c.getModifiers()) && !Modifier.isProtected(c.getModifiers()));
            limits(c);
        }
        limits(RankWheels.class);
    }

    private static void limits(Class<?> c) {
        int fields = 0;
        for (Field f : c.getDeclaredFields()) {
            if (Modifier.isStatic(f.getModifiers())) {
                check.holds(f + " is final", Modifier.isFinal(f.getModifiers()));
            } else {
                fields++;
            }
        }
        check.holds(c + " has some twenty fields at most", fields <= 20);
        for (Method m : c.getDeclaredMethods()) {
            check.holds(m + " takes seven at most", m.getParameterCount() <= 7);
        }
    }

    private static void code(String source) {
        String code = source.replaceAll("(?s)/\\*.*?\\*/", "").replaceAll("//[^\n]*", "");
        for (String word : LEFT_OUT) {
            check.holds("no " + word, !Pattern.compile(word).matcher(code).find());
        }
        Matcher used = Pattern.compile("\\b[A-Z][A-Za-z]*[a-z]\\.\\w+").matcher(code);
        while (used.find()) {
            check.holds(used.group() + " is in the library", LIBRARY.contains(used.group()));
        }
        check.holds("signs 1 to 127 alone", source.chars().allMatch(c -> c >= 1 && c <= 127));
        int begun = 0;
        String[] lines = source.split("\n");
        for (int i = 0; i < lines.length; i++) {
            if (lines[i].matches("( {4}| {8})[a-zA-Z].*\\) \\{")) {
                begun = i;
            }
            if (lines[i].matches("( {4}| {8})\\}") && lines[begun].indexOf(lines[begun].trim()) == lines[i].indexOf('}')) {
                check.holds(lines[begun].trim() + " is short", i - begun <= 60);
            }
        }
    }
}
