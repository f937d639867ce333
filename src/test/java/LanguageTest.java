import java.nio.file.Files;
import java.nio.file.Path;
import java.util.ArrayList;
import java.util.HashMap;
import java.util.List;
import java.util.Map;
import java.util.Set;
import java.util.TreeSet;
import java.util.regex.Matcher;
import java.util.regex.Pattern;

/** Those rules of LANGUAGE.md that can be seen in the words of the source. Run from the project's root. */
public final class LanguageTest {
    private static final Checks CHECKS = new Checks();
    private static final Set<String> RULED_OUT = Set.of(
        "import", "package", "float", "double", "String", "Object", "Math", "Integer", "Long", "System", "Arrays",
        "null", "throw", "throws", "try", "catch", "finally", "synchronized", "assert", "instanceof", "enum",
        "interface", "record", "protected", "extends", "implements", "var", "native", "volatile", "transient",
        "->", "::", "@", "super", "yield");
    private static final Set<String> KEYWORDS = Set.of("if", "for", "while", "switch", "return", "else", "do");
    private static final Pattern TOKEN = Pattern.compile("0x[0-9a-fA-F]+|\\w+|->|::|&&|\\|\\||[^\\s\\w]");

    public static void main(String[] args) throws Exception {
        String source = Files.readString(Path.of("src/main/java/SealedVolume.java"));
        List<String> tokens = tokensOf(withoutComments(source));
        for (String token : tokens) {
            CHECKS.yes("ruled out: " + token, !RULED_OUT.contains(token));
        }
        CHECKS.yes("one class", tokens.stream().filter("class"::equals).count() == 1);
        checkArrays(tokens);
        checkFields();
        checkCallsInArguments(tokens);
        Map<String, List<String>> bodies = bodiesOf(tokens);
        CHECKS.yes("methods are found: " + bodies.size(), bodies.size() >= 21);
        checkDepth(bodies);
        checkLengths(source);
        CHECKS.end();
    }

    private static String withoutComments(String source) {
        return source.replaceAll("(?s)/\\*.*?\\*/", " ").replaceAll("//[^\n]*", " ");
    }

    private static List<String> tokensOf(String text) {
        List<String> tokens = new ArrayList<>();
        Matcher matcher = TOKEN.matcher(text);
        while (matcher.find()) {
            tokens.add(matcher.group());
        }
        return tokens;
    }

    /** Rule 4, in its easiest form: only in fields' initialisers, with a constant length. */
    private static void checkArrays(List<String> tokens) {
        int depth = 0;
        for (int i = 0; i < tokens.size(); i++) {
            String token = tokens.get(i);
            depth += token.equals("{") ? 1 : token.equals("}") ? -1 : 0;
            if (token.equals("new")) {
                String made = String.join("", tokens.subList(i, i + 6));
                CHECKS.yes("array in a field's initialiser: " + made,
                    depth == 1 && made.matches("new(int|long|short|byte|char|boolean)\\[[A-Z0-9_]+\\];"));
            }
        }
    }

    private static void checkFields() {
        int fields = 0;
        for (java.lang.reflect.Field field : SealedVolume.class.getDeclaredFields()) {
            int modifiers = field.getModifiers();
            if (java.lang.reflect.Modifier.isStatic(modifiers)) {
                CHECKS.yes("constant: " + field, java.lang.reflect.Modifier.isFinal(modifiers)
                    && (field.getType() == int.class || field.getType() == long.class));
            } else {
                fields++;
                CHECKS.yes("array field is final: " + field,
                    !field.getType().isArray() || java.lang.reflect.Modifier.isFinal(modifiers));
            }
        }
        CHECKS.yes("at most forty fields: " + fields, fields <= 40);
    }

    private static boolean isName(String token) {
        return token.matches("[A-Za-z_]\\w*") && !KEYWORDS.contains(token);
    }

    /** Rule 10: no call inside the arguments of another, and at most seven parameters. */
    private static void checkCallsInArguments(List<String> tokens) {
        List<Boolean> open = new ArrayList<>();
        for (int i = 1; i < tokens.size(); i++) {
            String token = tokens.get(i);
            if (token.equals("(")) {
                boolean call = isName(tokens.get(i - 1));
                CHECKS.yes("call in the arguments of another: " + tokens.get(i - 1), !call || !open.contains(true));
                open.add(call);
            } else if (token.equals(")")) {
                open.remove(open.size() - 1);
            }
        }
        for (java.lang.reflect.Method method : SealedVolume.class.getDeclaredMethods()) {
            CHECKS.yes("at most seven parameters: " + method, method.getParameterCount() <= 7);
        }
    }

    private static Map<String, List<String>> bodiesOf(List<String> tokens) {
        Map<String, List<String>> bodies = new HashMap<>();
        int depth = 0;
        String name = "";
        for (int i = 0; i < tokens.size(); i++) {
            String token = tokens.get(i);
            if (depth == 1 && token.equals("(")) {
                name = tokens.get(i - 1);
                CHECKS.yes("no two methods are called " + name, !bodies.containsKey(name));
                bodies.put(name, new ArrayList<>());
            }
            depth += token.equals("{") ? 1 : token.equals("}") ? -1 : 0;
            if (depth >= 2) {
                bodies.get(name).add(token);
            }
        }
        return bodies;
    }

    private static Set<String> calledIn(List<String> body, Set<String> methods) {
        Set<String> called = new TreeSet<>();
        for (int i = 0; i + 1 < body.size(); i++) {
            if (body.get(i + 1).equals("(") && isName(body.get(i))) {
                CHECKS.yes("only methods of the class are called: " + body.get(i), methods.contains(body.get(i)));
                called.add(body.get(i));
            }
        }
        return called;
    }

    /** Rules 8 and 10: no recursion, and calls at most six deep. */
    private static void checkDepth(Map<String, List<String>> bodies) {
        Map<String, Integer> depths = new HashMap<>();
        for (int depth = 1; depth <= 6; depth++) {
            Set<String> found = new TreeSet<>();
            for (String name : bodies.keySet()) {
                if (!depths.containsKey(name)
                    && depths.keySet().containsAll(calledIn(bodies.get(name), bodies.keySet()))) {
                    found.add(name);
                }
            }
            for (String name : found) {
                depths.put(name, depth);
            }
        }
        for (String name : bodies.keySet()) {
            CHECKS.yes("calls from " + name + " go at most six deep and never back", depths.containsKey(name));
        }
    }

    private static void checkLengths(String source) {
        int length = 0;
        for (String line : source.split("\n")) {
            length = line.startsWith("    }") ? 0 : length + 1;
            boolean begins = line.startsWith("    public ") || line.startsWith("    private ");
            length = begins ? 1 : length;
            CHECKS.yes("at most sixty lines: " + line, length <= 60);
            CHECKS.yes("at most 120 columns: " + line, line.length() <= 120);
        }
    }
}
