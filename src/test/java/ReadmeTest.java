import java.io.IOException;
import java.lang.reflect.Method;
import java.lang.reflect.Modifier;
import java.nio.file.Files;
import java.nio.file.Path;
import java.util.ArrayList;
import java.util.List;
import java.util.Set;
import java.util.TreeSet;
import java.util.regex.Matcher;
import java.util.regex.Pattern;
import java.util.stream.Stream;

/**
 * README.md tells the truth: its example answers as it says, it names every method with what it takes,
 * every promise stands in it in the document's words, and it lists every test of the project.
 */
public final class ReadmeTest {
    private static final Path README = Path.of("README.md");
    private static final Path TESTS = Path.of("src/test/java");
    private static final Path DOCUMENT = Path.of("../shared/DOC.md");

    private static int wrong = 0;

    public static void main(String[] args) throws IOException, ReflectiveOperationException {
        String readme = Files.readString(README);
        example(readme);
        methods(readme);
        promises(readme);
        tests(readme);
        System.out.println(wrong == 0 ? "the README is true" : wrong + " faults in the README");
        if (wrong != 0) {
            System.exit(1);
        }
    }

    private static void due(String what, Object got, Object want) {
        if (!want.equals(got)) {
            wrong++;
            System.out.println(what + " is " + got + ", due is " + want);
        }
    }

    /** Makes the example's calls, a line at a time; the number or truth that begins a comment is the answer. */
    private static void example(String readme) throws ReflectiveOperationException {
        Matcher block = Pattern.compile("(?s)```java\n(.*?)```").matcher(readme);
        due("a Java example there", block.find(), true);
        Matcher made = Pattern.compile("NameResolver r = new NameResolver\\((\\d+)\\);\n").matcher(block.group(1));
        due("an object made at the start of the example", made.lookingAt(), true);
        NameResolver r = new NameResolver(Integer.parseInt(made.group(1)));
        Set<String> called = new TreeSet<>();
        for (String line : block.group(1).substring(made.end()).split("\n")) {
            if (!line.isBlank()) {
                called.add(exampleLine(r, line));
            }
        }
        due("the methods that the example calls", called, namesOfMethods());
    }

    private static String exampleLine(NameResolver r, String line) throws ReflectiveOperationException {
        Matcher call = Pattern.compile("r\\.(\\w+)\\(([^)]*)\\);(?: +// (-?\\w+)(?:: .*)?)?").matcher(line);
        if (!call.matches()) {
            due("the line of the example, " + line + ",", "no call", "a call with its answer");
            return "";
        }
        Object answer = method(call.group(1)).invoke(r, arguments(call.group(2)));
        due(call.group() + " in the example: the answer", String.valueOf(answer), String.valueOf(call.group(3)));
        return call.group(1);
    }

    private static Object[] arguments(String words) {
        List<Object> values = new ArrayList<>();
        for (String word : words.split(", ")) {
            if (word.equals("true") || word.equals("false")) {
                values.add(Boolean.valueOf(word));
            } else if (!word.isEmpty()) {
                values.add(Integer.valueOf(word));
            }
        }
        return values.toArray();
    }

    private static Method method(String name) {
        for (Method m : publicMethods()) {
            if (m.getName().equals(name)) {
                return m;
            }
        }
        throw new IllegalArgumentException("the README calls " + name + ", and there is no such method");
    }

    private static List<Method> publicMethods() {
        List<Method> all = new ArrayList<>();
        for (Method m : NameResolver.class.getDeclaredMethods()) {
            if (Modifier.isPublic(m.getModifiers())) {
                all.add(m);
            }
        }
        return all;
    }

    private static Set<String> namesOfMethods() {
        Set<String> names = new TreeSet<>();
        for (Method m : publicMethods()) {
            names.add(m.getName());
        }
        return names;
    }

    /** Each entry of a method: what it answers, its name and the types of what it takes. */
    private static void methods(String readme) {
        Set<String> told = new TreeSet<>();
        Matcher entry = Pattern.compile("(?m)^- `(\\w+ \\w+)\\(([^)]*)\\)`: ").matcher(readme);
        while (entry.find()) {
            told.add(entry.group(1) + "(" + entry.group(2).replaceAll("(\\w+) \\w+", "$1").replace(" ", "") + ")");
        }
        Set<String> there = new TreeSet<>();
        for (Method m : publicMethods()) {
            String types = m.toString().replaceAll(".*\\(", "(");
            there.add(m.getReturnType() + " " + m.getName() + types);
        }
        due("the methods that the README tells of", told, there);
    }

    private static void promises(String readme) throws IOException {
        if (!Files.isReadable(DOCUMENT)) {
            System.out.println("no document at " + DOCUMENT + ": its words are not compared");
            return;
        }
        String told = onOneLine(readme);
        Pattern section = Pattern.compile("(?s)\n## (Promise \\d+: [^\n]*)\n(.*?)(?=\n## )");
        Matcher promise = section.matcher(Files.readString(DOCUMENT));
        int found = 0;
        while (promise.find()) {
            found++;
            due(promise.group(1) + " in the document's words", told.contains(onOneLine(promise.group(2))), true);
        }
        due("the number of promises in the document", found, 16);
    }

    private static String onOneLine(String text) {
        return text.replaceAll("\\s+", " ").strip();
    }

    private static void tests(String readme) throws IOException {
        Set<String> told = new TreeSet<>();
        Matcher entry = Pattern.compile("(?m)^- `(\\w+Test)`: ").matcher(readme);
        while (entry.find()) {
            told.add(entry.group(1) + ".java");
        }
        Set<String> there = new TreeSet<>();
        try (Stream<Path> files = Files.list(TESTS)) {
            files.forEach(file -> there.add(file.getFileName().toString()));
        }
        due("the tests that the README tells of", told, there);
    }
}
