import java.lang.reflect.Field;
import java.lang.reflect.Method;
import java.lang.reflect.Modifier;
import java.nio.file.Files;
import java.nio.file.Path;
import java.util.regex.Matcher;
import java.util.regex.Pattern;

/** That README.md tells the truth: its example is run, and every call and constant of the face stands in it. */
public final class ReadmeTest {
    private static final Check check = new Check();
    private static final Pattern EXAMPLE = Pattern.compile("(?s)```java\n(.*?)```");
    private static final Pattern TYPED = Pattern.compile("\"([^\"]*)\"");
    private static final Pattern CALL = Pattern.compile("(?m)^x\\.(\\w+)\\(([^)]*)\\);(?: +// (-?\\d+):)?");

    public static void main(String[] args) throws Exception {
        String readme = Files.readString(Path.of("README.md"));
        example(readme);
        allCalls(readme);
        allConstants(readme);
        check.end("ReadmeTest");
    }

    private static void example(String readme) throws Exception {
        Matcher block = EXAMPLE.matcher(readme);
        check.holds("README.md has an example", block.find());
        String code = block.group(1);
        RankWheels x = new RankWheels();
        Matcher typed = TYPED.matcher(code);
        check.holds("the example types a text", typed.find());
        Check.type(x, typed.group(1));
        Matcher call = CALL.matcher(code);
        while (call.find()) {
            long got = ask(x, call.group(1), call.group(2));
            check.holds(call.group() + " says its answer", call.group(3) != null);
            check.due("README.md: " + call.group(), got, Long.parseLong(call.group(3)));
        }
    }

    private static long ask(RankWheels x, String name, String list) throws Exception {
        String[] words = list.isEmpty() ? new String[0] : list.split(", ");
        Class<?>[] types = new Class<?>[words.length];
        Object[] given = new Object[words.length];
        for (int i = 0; i < words.length; i++) {
            types[i] = int.class;
            given[i] = Integer.valueOf(words[i]);
        }
        return ((Number) RankWheels.class.getMethod(name, types).invoke(x, given)).longValue();
    }

    private static void allCalls(String readme) {
        for (Method m : RankWheels.class.getDeclaredMethods()) {
            if (Modifier.isPublic(m.getModifiers())) {
                String list = "[^,)]+" + ", [^,)]+".repeat(Math.max(0, m.getParameterCount() - 1));
                String row = "\n\\| `" + m.getName() + "\\(" + (m.getParameterCount() == 0 ? "" : list) + "\\)` \\|";
                check.holds(m.getName() + " stands in README.md", Pattern.compile(row).matcher(readme).find());
            }
        }
    }

    private static void allConstants(String readme) throws Exception {
        for (Field f : RankWheels.class.getFields()) {
            String row = "\n| `" + f.getName() + "` | " + f.getInt(null) + " |";
            check.holds(f.getName() + " stands in README.md", readme.contains(row));
        }
    }
}
