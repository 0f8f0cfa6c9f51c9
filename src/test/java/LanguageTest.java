import java.io.IOException;
import java.nio.file.Files;
import java.nio.file.Path;
import java.util.ArrayDeque;
import java.util.ArrayList;
import java.util.Deque;
import java.util.List;
import java.util.Map;
import java.util.Set;
import java.util.TreeMap;
import java.util.TreeSet;
import java.util.regex.Matcher;
import java.util.regex.Pattern;

/** Those rules of LANGUAGE.md that can be read off the program's text. Run from the project's root. */
public final class LanguageTest {
    private static final Path PROGRAM = Path.of("src/main/java/LoopPipeliner.java");
    private static final Set<String> FORBIDDEN = Set.of(
        "package", "import", "float", "double", "null", "throw", "throws", "try", "catch", "finally", "synchronized",
        "assert", "instanceof", "interface", "enum", "record", "extends", "implements", "protected", "native", "var",
        "yield", "super", "volatile", "transient");
    private static final Set<String> CALL_LIKE = Set.of("if", "for", "while", "switch", "return");
    private static final Pattern TOKEN = Pattern.compile("[A-Za-z_$][A-Za-z_$0-9]*|[0-9]+|->|::|\\S");
    private static final Pattern ARRAY_FIELD =
        Pattern.compile(" {4}private final (int|boolean)\\[\\] \\w+ = new \\1\\[[A-Z_]+\\];");
    private static final Pattern CONSTANT =
        Pattern.compile(" {4}(public|private) static final (int|long) [A-Z_]+ = -?[0-9]+;");
    private static final Pattern METHOD = Pattern.compile(" {4}(?:public|private) .*?(\\w+)\\(.*\\{");
    private static final int MOST_LINES = 60;
    private static final int MOST_DEEP = 6;

    private static final Checks checks = new Checks();

    private static List<String> tokens(String text) {
        List<String> found = new ArrayList<>();
        Matcher matcher = TOKEN.matcher(text);
        while (matcher.find()) {
            found.add(matcher.group());
        }
        return found;
    }

    private static boolean isWord(String token) {
        return Character.isJavaIdentifierStart(token.charAt(0));
    }

    private static void words(List<String> tokens) {
        int classes = 0;
        for (int i = 0; i < tokens.size(); i++) {
            String token = tokens.get(i);
            checks.holds("'" + token + "' is allowed", !FORBIDDEN.contains(token));
            checks.holds("no lambda, method reference, text or annotation",
                !token.equals("->") && !token.equals("::") && !token.equals("\"") && !token.equals("@"));
            boolean constant = token.equals(token.toUpperCase());
            checks.holds("'" + token + "' is no class of the library",
                !Character.isUpperCase(token.charAt(0)) || constant || token.equals("LoopPipeliner"));
            checks.holds("no member of anything is named by a dot", !token.equals("."));
            classes += token.equals("class") ? 1 : 0;
        }
        checks.due("classes", classes, 1);
    }

    private static void arraysAreFields(List<String> lines) {
        for (String line : lines) {
            if (tokens(line).contains("new")) {
                checks.holds("an array is made in a field's initialiser: " + line, ARRAY_FIELD.matcher(line).matches());
            }
        }
    }

    // A call inside a call's arguments: a name with '(' while such a one is open.
    private static void noCallInACall(List<String> tokens) {
        Deque<Boolean> open = new ArrayDeque<>();
        for (int i = 1; i < tokens.size(); i++) {
            String before = tokens.get(i - 1);
            if (tokens.get(i).equals("(")) {
                boolean call = isWord(before) && !CALL_LIKE.contains(before);
                checks.holds("the call of " + before + " is in no call's arguments", !call || !open.contains(true));
                open.push(call);
            } else if (tokens.get(i).equals(")")) {
                open.pop();
            }
        }
    }

    private static void constantsAreLiterals(List<String> lines) {
        for (String line : lines) {
            if (tokens(line).contains("static") && !METHOD.matcher(line).matches()) {
                checks.holds("a static field is a constant: " + line, CONSTANT.matcher(line).matches());
            }
        }
    }

    /** For each method, those of the class that it calls. */
    private static Map<String, Set<String>> calls(List<String> lines) {
        Map<String, Set<String>> calls = new TreeMap<>();
        String method = "";
        for (String line : lines) {
            Matcher head = METHOD.matcher(line);
            if (head.matches()) {
                method = head.group(1);
                calls.put(method, new TreeSet<>());
            } else if (!method.isEmpty()) {
                calls.get(method).addAll(calledIn(tokens(line)));
            }
        }
        return calls;
    }

    private static Set<String> calledIn(List<String> tokens) {
        Set<String> called = new TreeSet<>();
        for (int i = 1; i < tokens.size(); i++) {
            String before = tokens.get(i - 1);
            if (tokens.get(i).equals("(") && isWord(before) && !CALL_LIKE.contains(before)) {
                called.add(before);
            }
        }
        return called;
    }

    // Methods that call each other would never be without a call: the levels end only if there is no recursion.
    private static void callsAreNotDeep(List<String> lines) {
        Map<String, Set<String>> calls = calls(lines);
        checks.holds("the methods are found", calls.containsKey("run") && calls.get("run").contains("performSteps"));
        Set<String> level = calls.keySet();
        for (int depth = 1; depth <= MOST_DEEP; depth++) {
            Set<String> below = new TreeSet<>();
            for (String method : level) {
                checks.holds(method + " is of the class", calls.containsKey(method));
                below.addAll(calls.getOrDefault(method, Set.of()));
            }
            level = below;
        }
        checks.holds("no recursion, and at most six calls deep; deeper are " + level, level.isEmpty());
    }

    private static void methodsAreShort(List<String> lines) {
        int start = 0;
        for (int i = 0; i < lines.size(); i++) {
            if (lines.get(i).matches(" {4}(public|private) .*\\{")) {
                start = i;
            }
            if (lines.get(i).equals("    }")) {
                checks.holds("short: " + lines.get(start).trim(), i - start + 1 <= MOST_LINES);
            }
        }
    }

    public static void main(String[] args) throws IOException {
        String text = Files.readString(PROGRAM).replaceAll("//[^\n]*", "").replaceAll("(?s)/\\*.*?\\*/", "");
        List<String> lines = List.of(text.split("\n"));
        List<String> tokens = tokens(text);
        words(tokens);
        arraysAreFields(lines);
        constantsAreLiterals(lines);
        noCallInACall(tokens);
        callsAreNotDeep(lines);
        methodsAreShort(lines);
        checks.end("LanguageTest");
    }
}
