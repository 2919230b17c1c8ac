import java.io.IOException;
import java.lang.reflect.Field;
import java.lang.reflect.Method;
import java.lang.reflect.Modifier;
import java.nio.file.Files;
import java.nio.file.Path;
import java.util.Arrays;
import java.util.HashSet;
import java.util.LinkedHashMap;
import java.util.Map;
import java.util.Set;
import java.util.TreeMap;
import java.util.TreeSet;
import java.util.regex.Matcher;
import java.util.regex.Pattern;

/** The public face, and those rules of LANGUAGE.md that the class and its text can show. */
public final class LanguageTest {
    private static final Path SOURCE = Path.of("src/main/java/TransletDesk.java");
    private static final Pattern HEAD = Pattern.compile("(\\w+)\\s*\\(([^()]*)\\)\\s*$");
    private static final Pattern CALL = Pattern.compile("\\b(\\w+)\\s*\\(");

    private static final int MOST_DEEP = 6;

    private static final Map<String, String> bodies = new LinkedHashMap<>();
    private static final Map<String, Set<String>> calls = new LinkedHashMap<>();

    private LanguageTest() {
    }

    public static void main(String[] args) throws IOException {
        String text = Files.readString(SOURCE).replaceAll("(?s)/\\*.*?\\*/", "")
            .replaceAll("//[^\\n]*", "");
        face();
        fields();
        words(text);
        methods(text);
        arrays(text);
        calls();
        callDepth();
        nestedCalls();
        Due.end();
    }

    private static void face() {
        Due.part("the public face, rule 1");
        Map<String, String> due = new TreeMap<>();
        for (String each : new String[] {"insert int int int int", "remove int int",
            "move boolean int int int", "change boolean int int int", "child int int int",
            "token int int int", "expression int int", "size int int int", "at int int int int",
            "number int int int", "holds boolean int int", "template boolean int int int int int",
            "drop boolean int", "matches boolean int int", "transform int int", "output int int"}) {
            due.put(each.substring(0, each.indexOf(' ')), each);
        }
        Set<String> found = new TreeSet<>();
        for (Method method : TransletDesk.class.getDeclaredMethods()) {
            if (Modifier.isPrivate(method.getModifiers())) {
                Due.no("private " + method.getName(), due.containsKey(method.getName()));
                continue;
            }
            StringBuilder form = new StringBuilder(method.getName() + " " + method.getReturnType());
            for (Class<?> type : method.getParameterTypes()) {
                form.append(" ").append(type);
            }
            Due.yes(form.toString(), due.containsValue(form.toString()));
            Due.same(method.getName(), method.getModifiers(), Modifier.PUBLIC);
            found.add(method.getName());
        }
        Due.same("methods of the face", found.size(), due.size());
        Due.same("the class", TransletDesk.class.getModifiers(), Modifier.PUBLIC | Modifier.FINAL);
        Due.same("constructors", TransletDesk.class.getDeclaredConstructors().length, 1);
        Due.same("public constructors", TransletDesk.class.getConstructors().length, 1);
        Due.same("nested classes", TransletDesk.class.getDeclaredClasses().length, 0);
    }

    private static void fields() {
        Due.part("rules 1, 2, 5, 10");
        Set<String> constants = new HashSet<>(
            Arrays.asList("REFUSED", "WRONG", "STALLS", "SET", "NUMBER", "TRUTH"));
        int count = 0;
        for (Field field : TransletDesk.class.getDeclaredFields()) {
            Class<?> type = field.getType();
            Class<?> plain = type.isArray() ? type.getComponentType() : type;
            int form = field.getModifiers();
            Due.yes("type of " + field.getName(),
                plain.isPrimitive() && plain != double.class && plain != float.class);
            Due.same("public " + field.getName(), Modifier.isPublic(form) ? 1 : 0,
                constants.contains(field.getName()) ? 1 : 0);
            Due.yes("public or private " + field.getName(),
                Modifier.isPublic(form) || Modifier.isPrivate(form));
            if (Modifier.isStatic(form)) {
                Due.yes("constant " + field.getName(),
                    Modifier.isFinal(form) && (type == int.class || type == long.class));
            } else {
                count++;
            }
        }
        Due.yes("at most forty fields", count <= 40);
    }

    private static void words(String text) {
        Due.part("rules 2, 3, 6");
        for (String word : new String[] {"float", "double", "String", "Math", "Integer", "System",
            "Arrays", "Object", "import", "package", "null", "throw", "throws", "try", "catch",
            "synchronized", "assert", "instanceof", "class", "interface", "enum", "super",
            "protected", "Override"}) {
            int most = word.equals("class") ? 1 : 0;
            Matcher found = Pattern.compile("\\b" + word + "\\b").matcher(text);
            Due.same(word, found.results().count(), most);
        }
        Due.no("a lambda", text.contains("->"));
        Due.no("a method reference", text.contains("::"));
        Due.no("a string", text.contains("\""));
    }

    private static void arrays(String text) {
        Due.part("rule 4");
        long made = count("\\bnew\\b", text);
        long arrays = count(
            "\\bnew\\s+(int|long|short|byte|char|boolean)\\s*\\[[0-9A-Z_ *+()-]+\\]", text);
        Due.same("what is made is an array with a constant length", arrays, made);
        Due.same("two dimensions", count("\\]\\s*\\[", text), 0);
        for (String name : bodies.keySet()) {
            if (!name.equals("TransletDesk")) {
                Due.same("made in " + name, count("\\bnew\\b", bodies.get(name)), 0);
            }
        }
    }

    private static long count(String pattern, String text) {
        return Pattern.compile(pattern).matcher(text).results().count();
    }

    /** Reads the methods by their braces: what stands before one right inside the class is a head. */
    private static void methods(String text) {
        Due.part("rule 10");
        int depth = 0;
        int from = 0;
        int found = 0;
        Matcher head = null;
        for (int i = 0; i < text.length(); i++) {
            char here = text.charAt(i);
            if (here == '{' && depth == 1) {
                head = HEAD.matcher(text.substring(from, i));
                from = i + 1;
            } else if (here == '}' && depth == 2 && head.find()) {
                method(head.group(1), head.group(2), text.substring(from, i));
                found++;
            }
            depth += here == '{' ? 1 : here == '}' ? -1 : 0;
            if (depth == 1 && (here == ';' || here == '}' || here == '{')) {
                from = i + 1;
            }
        }
        int constructors = TransletDesk.class.getDeclaredConstructors().length;
        Due.same("methods read", found, TransletDesk.class.getDeclaredMethods().length + constructors);
    }

    private static void method(String name, String parameters, String body) {
        bodies.merge(name, body, (one, other) -> one + other);
        Due.yes("length of " + name, body.lines().count() <= 62);
        Due.yes("parameters of " + name, parameters.split(",").length <= 7);
    }

    private static void calls() {
        for (String name : bodies.keySet()) {
            Set<String> called = new TreeSet<>();
            Matcher call = CALL.matcher(bodies.get(name));
            while (call.find()) {
                if (bodies.containsKey(call.group(1))) {
                    called.add(call.group(1));
                }
            }
            calls.put(name, called);
        }
    }

    private static void callDepth() {
        Due.part("rules 8 and 10");
        for (String name : bodies.keySet()) {
            Due.yes("calls from " + name + " at most six deep", depth(name, 0) <= MOST_DEEP);
        }
    }

    /** How many calls stand one inside the other; a recursion shows as a depth without an end. */
    private static int depth(String name, int from) {
        int deepest = from;
        if (from <= MOST_DEEP) {
            for (String each : calls.get(name)) {
                deepest = Math.max(deepest, depth(each, from + 1));
            }
        }
        return deepest;
    }

    private static void nestedCalls() {
        Due.part("rule 10, calls inside arguments");
        for (String name : bodies.keySet()) {
            String body = bodies.get(name);
            Matcher call = CALL.matcher(body);
            while (call.find()) {
                if (bodies.containsKey(call.group(1))) {
                    String arguments = arguments(body, call.end());
                    Due.no(name + ": " + call.group(1) + "(" + arguments + ")",
                        CALL.matcher(arguments).find());
                }
            }
        }
    }

    private static String arguments(String body, int start) {
        int open = 1;
        int end = start;
        while (open > 0) {
            char here = body.charAt(end);
            open += here == '(' ? 1 : here == ')' ? -1 : 0;
            end++;
        }
        return body.substring(start, end - 1);
    }
}
