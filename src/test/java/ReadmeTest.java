import java.lang.reflect.Method;
import java.lang.reflect.Modifier;
import java.nio.file.Files;
import java.nio.file.Path;
import java.util.HashSet;
import java.util.Set;
import java.util.regex.Matcher;
import java.util.regex.Pattern;

/** Makes the calls of README.md's example: each answers what its comment says. */
public final class ReadmeTest {
    private static final Pattern CALL =
        Pattern.compile("    desk\\.(\\w+)\\(([^()]*)\\); +// ([\\w-]+)(:.*)?");
    private static final int LEAST_CALLS = 20;

    private ReadmeTest() {
    }

    public static void main(String[] args) throws Exception {
        Due.part("README.md");
        String text = Files.readString(Path.of("README.md"));
        runExample(text);
        namesEveryCall(text);
        Due.yes("README.md tells how the tests are run", text.contains("\n    .ci/run\n"));
        Due.end();
    }

    private static void runExample(String text) throws Exception {
        TransletDesk desk = new TransletDesk();
        int calls = 0;
        for (String line : text.split("\n")) {
            if (!line.startsWith("    desk.")) {
                continue;
            }
            Matcher call = CALL.matcher(line);
            if (!call.matches()) {
                Due.yes("can be read: " + line, false);
                continue;
            }
            calls++;
            Due.same(line.trim(), answer(desk, call.group(1), call.group(2)), due(call.group(3)));
        }
        Due.yes("the example has calls enough", calls >= LEAST_CALLS);
    }

    private static void namesEveryCall(String text) {
        Set<String> missing = new HashSet<>();
        for (Method method : TransletDesk.class.getDeclaredMethods()) {
            int modifiers = method.getModifiers();
            if (Modifier.isPublic(modifiers)
                && !text.contains("`" + method.getName() + "`")) {
                missing.add(method.getName());
            }
        }
        Due.yes("README.md names every public method, not without " + missing, missing.isEmpty());
    }

    private static long answer(TransletDesk desk, String name, String list) throws Exception {
        String[] terms = list.split(",");
        Class<?>[] types = new Class<?>[terms.length];
        Object[] values = new Object[terms.length];
        for (int i = 0; i < terms.length; i++) {
            types[i] = int.class;
            values[i] = worth(terms[i]);
        }
        Object got = TransletDesk.class.getMethod(name, types).invoke(desk, values);
        return got instanceof Boolean ? ((Boolean) got ? 1 : 0) : (Integer) got;
    }

    /** A sum of products of numbers, as the example writes the value of a STEP. */
    private static int worth(String term) {
        int sum = 0;
        for (String product : term.split("\\+")) {
            int worth = 1;
            for (String factor : product.split("\\*")) {
                worth *= Integer.parseInt(factor.trim());
            }
            sum += worth;
        }
        return sum;
    }

    private static long due(String word) throws Exception {
        if (word.equals("true") || word.equals("false")) {
            return word.equals("true") ? 1 : 0;
        }
        return Character.isLetter(word.charAt(0))
            ? TransletDesk.class.getField(word).getInt(null) : Integer.parseInt(word);
    }
}
