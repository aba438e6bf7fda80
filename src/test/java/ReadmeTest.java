import java.io.IOException;
import java.lang.reflect.InvocationTargetException;
import java.lang.reflect.Method;
import java.nio.file.DirectoryStream;
import java.nio.file.Files;
import java.nio.file.Path;
import java.util.HashMap;
import java.util.HashSet;
import java.util.Map;
import java.util.Set;
import java.util.regex.Matcher;
import java.util.regex.Pattern;

/** What README.md says is so: its calls answer as it tells, it shows every call, and it names every test. */
public final class ReadmeTest {
    private static final Path README = Path.of("README.md");
    private static final Path TESTS = Path.of("src", "test", "java");
    private static final String MADE = "ShareBench bench = new ShareBench();";
    private static final Pattern CALL = Pattern.compile("bench\\.(\\w+)\\(([-0-9, ]*)\\);\\s*");
    private static final Pattern TOLD = Pattern.compile("// (-?\\w+)(?:\\W.*)?");

    private final Map<String, Method> face = new HashMap<>();
    private final Set<String> shown = new HashSet<>();
    private ShareBench bench;
    private int told;

    public static void main(String[] args) throws IOException, ReflectiveOperationException {
        String text = Files.readString(README);
        new ReadmeTest().runExample(text);
        namesEachTest(text);
        namesFilesThatAre(text);
        Due.end();
    }

    private ReadmeTest() {
        for (Method method : ShareBench.class.getMethods()) {
            if (method.getDeclaringClass() == ShareBench.class) {
                face.put(method.getName(), method);
            }
        }
    }

    private void runExample(String text) throws ReflectiveOperationException {
        Matcher block = Pattern.compile("(?s)```java\n(.*?)```").matcher(text);
        Due.is("README.md has an example", block.find(), true);
        for (String line : block.group(1).split("\n")) {
            if (line.equals(MADE)) {
                bench = new ShareBench();
            } else if (!line.isBlank() && !line.startsWith("//")) {
                runLine(line);
            }
        }
        Due.is("some answers are told", told > 0, true);
        for (String name : face.keySet()) {
            Due.is("README.md shows " + name, shown.contains(name), true);
        }
    }

    /** A line has one call or more; what it tells behind them is what the last one answers. */
    private void runLine(String line) throws ReflectiveOperationException {
        Matcher calls = CALL.matcher(line);
        String answer = "";
        int end = 0;
        while (calls.find() && calls.start() == end) {
            answer = answerOf(calls.group(1), calls.group(2));
            end = calls.end();
        }
        String rest = line.substring(end);
        Matcher want = TOLD.matcher(rest);
        if (want.matches()) {
            told++;
            Due.is("README.md: " + line, answer, want.group(1));
        } else {
            Due.is("README.md: " + line + " has calls, then what the last one answers", rest, "");
        }
    }

    private String answerOf(String name, String numbers) throws IllegalAccessException, InvocationTargetException {
        Method method = face.get(name);
        if (method == null) {
            return "there is no " + name;
        }
        shown.add(name);
        String[] words = numbers.isEmpty() ? new String[0] : numbers.split(", ");
        Object[] given = new Object[words.length];
        for (int k = 0; k < words.length; k++) {
            given[k] = Integer.valueOf(words[k]);
        }
        return String.valueOf(method.invoke(bench, given));
    }

    private static void namesEachTest(String text) throws IOException {
        try (DirectoryStream<Path> files = Files.newDirectoryStream(TESTS, "*Test.java")) {
            for (Path file : files) {
                String name = file.getFileName().toString().replace(".java", "");
                Due.is("README.md names " + name, text.contains("| `" + name + "` |"), true);
            }
        }
    }

    private static void namesFilesThatAre(String text) {
        Matcher rows = Pattern.compile("`(\\w+(?:Test|Edges))`").matcher(text);
        while (rows.find()) {
            Due.is(rows.group(1) + " is there", Files.exists(TESTS.resolve(rows.group(1) + ".java")), true);
        }
        Matcher paths = Pattern.compile("`((?:src|\\.ci)/[\\w/.]*)`").matcher(text);
        while (paths.find()) {
            Due.is(paths.group(1) + " is there", Files.exists(Path.of(paths.group(1))), true);
        }
    }
}
