import java.io.IOException;
import java.nio.file.Files;
import java.nio.file.Path;
import java.util.Map;
import java.util.Set;
import java.util.TreeMap;
import java.util.TreeSet;
import java.util.regex.Matcher;
import java.util.regex.Pattern;

/**
 * The rules of LANGUAGE.md that a look at the words of the source can tell: what is only for the eye
 * (loops that end, indexes looked at) is not tested here.
 */
public final class LanguageTest {
    private static final Path SOURCE = Path.of("src/main/java/NameResolver.java");

    private static final Set<String> BANNED = Set.of(
            "import", "package", "interface", "enum", "record", "extends", "implements", "protected", "float", "double",
            "null", "throw", "throws", "try", "catch", "finally", "synchronized", "assert", "instanceof", "super",
            "String", "Object", "Math", "Integer", "Long", "Boolean", "System", "Arrays", "var",
            "equals", "hashCode", "toString", "getClass", "clone", "wait", "notify", "notifyAll");

    private static final Set<String> NOT_A_CALL = Set.of("if", "for", "while", "switch", "return");

    private static int wrong = 0;

    public static void main(String[] args) throws IOException {
        String text = withoutComments(Files.readString(SOURCE));
        bannedWords(text);
        visibility(text);
        arrays(text);
        callsInArguments(text);
        Map<String, String> methods = methods(text);
        methodLengths(methods);
        depthOfCalls(methods);
        System.out.println(wrong == 0 ? "the words keep to the language" : wrong + " places leave the language");
        if (wrong != 0) {
            System.exit(1);
        }
    }

    private static void fault(int rule, String what) {
        wrong++;
        System.out.println("rule " + rule + ": " + what);
    }

    private static String withoutComments(String text) {
        return text.replaceAll("(?s)/\\*.*?\\*/", " ").replaceAll("//[^\n]*", " ");
    }

    private static void bannedWords(String text) {
        Matcher word = Pattern.compile("[A-Za-z_]\\w*").matcher(text);
        int classes = 0;
        while (word.find()) {
            classes += word.group().equals("class") ? 1 : 0;
            if (BANNED.contains(word.group())) {
                fault(6, "the word " + word.group());
            }
        }
        if (classes != 1) {
            fault(1, classes + " classes");
        }
        if (text.contains("->") || text.contains("::") || text.contains("\"") || text.contains("[][]")) {
            fault(2, "a lambda, a method reference, a string or an array of arrays");
        }
    }

    /** Members stand four blanks in: each is public or private, and a static field is a constant number. */
    private static void visibility(String text) {
        for (String line : text.split("\n")) {
            if (line.matches(" {4}[A-Za-z@].*") && !line.matches(" {4}(public|private) .*")) {
                fault(1, "neither public nor private:" + line);
            }
            if (line.matches(" {4}\\w+ static .*;") && !line.matches(" {4}\\w+ static final (int|long) [A-Z_]+ = -?\\d+;")) {
                fault(5, "a static field that is no constant:" + line);
            }
        }
    }

    private static void arrays(String text) {
        for (String line : text.split("\n")) {
            boolean makes = line.matches(".*\\bnew\\b.*");
            if (makes && !line.matches(" {4}private final (\\w+)\\[\\] \\w+ = new \\1\\[[A-Z_]+\\];")) {
                fault(4, "something made outside a field's initialiser:" + line);
            }
        }
    }

    private static void callsInArguments(String text) {
        Matcher call = Pattern.compile("\\b([A-Za-z_]\\w*)\\(").matcher(text);
        while (call.find()) {
            if (!NOT_A_CALL.contains(call.group(1))) {
                String inside = upToClosing(text, call.end());
                if (inside.matches("(?s).*\\w\\(.*")) {
                    fault(10, "a call in the arguments of " + call.group(1) + ": " + inside);
                }
                if (inside.split(",").length > 7) {
                    fault(10, "more than seven parameters of " + call.group(1));
                }
            }
        }
    }

    /** The body of each method by its name; a method begins and ends four blanks in. */
    private static Map<String, String> methods(String text) {
        Map<String, String> bodies = new TreeMap<>();
        Matcher method = Pattern.compile("(?ms)^ {4}(?:public|private) [^;={]*?(\\w+)\\([^)]*\\) \\{$(.*?)^ {4}\\}$").matcher(text);
        while (method.find()) {
            if (bodies.put(method.group(1), method.group(2)) != null) {
                fault(1, "two methods with the name " + method.group(1));
            }
        }
        if (bodies.size() < 15) {
            fault(1, "fewer methods than the document names: " + bodies.keySet());
        }
        return bodies;
    }

    private static void methodLengths(Map<String, String> methods) {
        for (Map.Entry<String, String> method : methods.entrySet()) {
            if (method.getValue().lines().count() > 60) {
                fault(10, method.getKey() + " is longer than sixty lines");
            }
        }
    }

    /** Takes, level by level, the methods that are called; a recursion would never come to an end of it. */
    private static void depthOfCalls(Map<String, String> methods) {
        Set<String> level = methods.keySet();
        for (int deep = 1; deep <= 6; deep++) {
            level = calledBy(level, methods);
        }
        if (!level.isEmpty()) {
            fault(10, "a recursion, or calls more than six deep, down to " + level);
        }
    }

    private static Set<String> calledBy(Set<String> callers, Map<String, String> methods) {
        Set<String> called = new TreeSet<>();
        for (String caller : callers) {
            Matcher call = Pattern.compile("\\b(\\w+)\\(").matcher(methods.get(caller));
            while (call.find()) {
                if (methods.containsKey(call.group(1))) {
                    called.add(call.group(1));
                }
            }
        }
        return called;
    }

    private static String upToClosing(String text, int from) {
        int open = 1;
        int at = from;
        while (at < text.length() && open > 0) {
            open += text.charAt(at) == '(' ? 1 : text.charAt(at) == ')' ? -1 : 0;
            at++;
        }
        return text.substring(from, at - 1);
    }
}
