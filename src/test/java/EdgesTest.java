import java.io.IOException;
import java.lang.reflect.InvocationTargetException;
import java.lang.reflect.Method;
import java.nio.file.Files;
import java.nio.file.Path;
import java.util.ArrayList;
import java.util.Comparator;
import java.util.HashMap;
import java.util.HashSet;
import java.util.List;
import java.util.Map;
import java.util.Set;

/** Runs a test of its own for each sentence of the document that names a boundary case. */
public final class EdgesTest {
    private static final Class<?>[] GROUPS = {
        BenchEdges.class, NecklaceEdges.class, NetEdges.class, RoomsEdges.class, LineEdges.class
    };
    private static final Path DOCUMENT = Path.of("..", "shared", "DOC.md");
    private static final int PROMISES = 31;
    private static final int TERMS = 4;

    public static void main(String[] args) throws IOException {
        List<Method> tests = testsOf(GROUPS);
        for (Method test : tests) {
            run(test);
        }
        Due.begin("");
        eachPartHasOne(tests);
        if (Files.exists(DOCUMENT)) {
            wordsStandInTheDocument(tests, Files.readString(DOCUMENT));
        } else {
            System.out.println(DOCUMENT + " is not here: the sentences were not looked up in it");
        }
        System.out.println(tests.size() + " sentences");
        Due.end();
    }

    private static List<Method> testsOf(Class<?>[] groups) {
        List<Method> tests = new ArrayList<>();
        for (Class<?> group : groups) {
            for (Method method : group.getDeclaredMethods()) {
                if (method.isAnnotationPresent(Sentence.class)) {
                    tests.add(method);
                }
            }
        }
        tests.sort(Comparator.comparing(EdgesTest::told));
        return tests;
    }

    private static Sentence sentenceOf(Method test) {
        return test.getAnnotation(Sentence.class);
    }

    private static String told(Method test) {
        return sentenceOf(test).of() + " \"" + sentenceOf(test).says() + "\"";
    }

    private static void run(Method test) {
        Due.begin(told(test));
        try {
            test.invoke(null);
        } catch (InvocationTargetException e) {
            Due.isWrong(test.getName() + " threw " + e.getCause());
        } catch (IllegalAccessException e) {
            Due.isWrong(test.getName() + " can't be run: " + e);
        }
        if (Due.asked() == 0) {
            Due.isWrong(test.getName() + " asks nothing");
        }
    }

    private static void eachPartHasOne(List<Method> tests) {
        Set<String> parts = new HashSet<>();
        for (Method test : tests) {
            parts.add(sentenceOf(test).of());
        }
        for (int k = 1; k <= PROMISES; k++) {
            Due.is("a test of Promise " + k, parts.contains("Promise " + k), true);
        }
        for (int k = 1; k <= TERMS; k++) {
            Due.is("a test of Terms " + k, parts.contains("Terms " + k), true);
        }
    }

    private static void wordsStandInTheDocument(List<Method> tests, String document) {
        Map<String, String> parts = partsOf(document);
        for (Method test : tests) {
            String part = parts.getOrDefault(sentenceOf(test).of(), "");
            Due.is(told(test) + " stands there", part.contains(sentenceOf(test).says()), true);
        }
    }

    /** The document's parts by the names that the tests use. */
    private static Map<String, String> partsOf(String document) {
        Map<String, String> parts = new HashMap<>();
        for (String part : document.split("\n(?=## |==== )")) {
            String[] words = part.split("[ :.\n]+", 4);
            String name = part.startsWith("==== ") ? "Terms " + words[1]
                : words[1].equals("Promise") ? "Promise " + words[2] : part.substring(3).split("\n", 2)[0];
            parts.put(name, part);
        }
        return parts;
    }
}
