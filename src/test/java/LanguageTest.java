import java.io.IOException;
import java.lang.reflect.Field;
import java.lang.reflect.Method;
import java.lang.reflect.Modifier;
import java.net.URISyntaxException;
import java.nio.file.DirectoryStream;
import java.nio.file.Files;
import java.nio.file.Path;
import java.util.ArrayList;
import java.util.List;
import java.util.Set;
import java.util.regex.Matcher;
import java.util.regex.Pattern;

/** The rules of LANGUAGE.md that the source's words and the compiled classes show; rule 1 is in FaceTest. */
public final class LanguageTest {
    private static final Path SOURCE = Path.of("src", "main", "java", "ShareBench.java");
    private static final Set<String> LIBRARY = Set.of("String", "StringBuilder", "Integer", "Long", "Math", "System",
        "Arrays", "ArrayList", "List", "Iterator", "Iterable", "Comparable");
    private static final Set<String> IMPORTS = Set.of("java.util.Arrays", "java.util.ArrayList", "java.util.List",
        "java.util.Iterator");
    private static final Set<String> FIXED_TYPES = Set.of("int", "long", "boolean", "char", "java.lang.String", "[I",
        "[J", "[C", "[B");

    public static void main(String[] args) throws IOException, URISyntaxException {
        String code = withoutComments(Files.readString(SOURCE));
        for (String word : new String[] {"package", "throw", "throws", "try", "catch", "synchronized", "assert",
            "volatile", "native", "hashCode", "toString", "protected"}) {
            hasNot(code, "\\b" + word + "\\b");
        }
        for (String form : new String[] {"->", "::", "Exact\\b", "static\\s*\\{", "\\[\\]\\s*\\[\\]\\s*\\[\\]",
            "System\\.(?!arraycopy)", "Arrays\\.(?!(fill|copyOf|copyOfRange)\\()", "Math\\.random",
            "while\\s*\\(\\s*true", "for\\s*\\([^;)]*;\\s*;", "\"\\s*\\+", "\\+\\s*\""}) {
            hasNot(code, form);
        }
        imports(code);
        library(code);
        methodsAreShort(code);
        madeInConstructors(code);
        noHiddenClasses();
        for (Class<?> type : classes()) {
            fields(type);
            parameters(type);
        }
        Due.is("classes, at most twelve", classes().size() <= 12, true);
        Due.end();
    }

    private static String withoutComments(String text) {
        return text.replaceAll("(?s)/\\*.*?\\*/", "").replaceAll("//[^\n]*", "");
    }

    private static void hasNot(String code, String form) {
        Due.is("the source has " + form, Pattern.compile(form).matcher(code).find(), false);
    }

    private static void imports(String code) {
        Matcher found = Pattern.compile("import ([^;]*);").matcher(code);
        while (found.find()) {
            Due.is("import of " + found.group(1), IMPORTS.contains(found.group(1)), true);
        }
    }

    private static void library(String code) {
        Matcher found = Pattern.compile("\\b[A-Z]\\w*[a-z]\\w*\\b").matcher(code);
        while (found.find()) {
            Due.is("use of " + found.group(), isOwn(found.group()) || LIBRARY.contains(found.group()), true);
        }
    }

    private static List<Class<?>> classes() {
        List<Class<?>> all = new ArrayList<>(List.of(ShareBench.class));
        all.addAll(List.of(ShareBench.class.getDeclaredClasses()));
        return all;
    }

    private static boolean isOwn(String name) {
        for (Class<?> type : classes()) {
            if (type.getSimpleName().equals(name)) {
                return true;
            }
        }
        return false;
    }

    /** A method's first line ends with a brace behind its parameters, its last one stands as far in. */
    private static void methodsAreShort(String code) {
        String[] lines = code.split("\n");
        Pattern first = Pattern.compile("( {4}| {8})\\w[^=]*\\) \\{");
        for (int k = 0; k < lines.length; k++) {
            Matcher begin = first.matcher(lines[k]);
            if (begin.matches()) {
                int end = k;
                while (end < lines.length && !lines[end].equals(begin.group(1) + "}")) {
                    end++;
                }
                Due.is(lines[k].trim() + " of " + (end - k) + " lines, at most sixty", end - k < 60, true);
            }
        }
    }

    /** Rule 12 wants few objects, and README.md says that no call makes one: new stands in constructors alone. */
    private static void madeInConstructors(String code) {
        Pattern first = Pattern.compile(
            "(?: {4}| {8})(?!if |for |while |switch )(?:public |private |static )*(\\w.*)\\(.*\\) \\{");
        String within = "";
        for (String line : code.split("\n")) {
            Matcher begin = first.matcher(line);
            within = begin.matches() ? begin.group(1) : within;
            if (Pattern.compile("\\bnew\\b").matcher(line).find()) {
                Due.is(line.trim() + " stands in a constructor, in " + within, isOwn(within), true);
            }
        }
    }

    /** Local, anonymous and deeper classes have files of their own beside those of the classes that are seen. */
    private static void noHiddenClasses() throws IOException, URISyntaxException {
        Path home = Path.of(ShareBench.class.getProtectionDomain().getCodeSource().getLocation().toURI());
        try (DirectoryStream<Path> files = Files.newDirectoryStream(home, "ShareBench$*.class")) {
            for (Path file : files) {
                String name = file.getFileName().toString();
                Due.is(name + " is of a class that is seen",
                    isOwn(name.substring("ShareBench$".length(), name.length() - ".class".length())), true);
            }
        }
    }

    private static void fields(Class<?> type) {
        int own = 0;
        for (Field field : type.getDeclaredFields()) {
            if (!Modifier.isStatic(field.getModifiers())) {
                own++;
                continue;
            }
            Due.is(field + " is final", Modifier.isFinal(field.getModifiers()), true);
            Due.is(field + " is of a fixed type",
                type.isEnum() || FIXED_TYPES.contains(field.getType().getName()), true);
        }
        Due.is("fields of " + type + ", at most twenty", own <= 20, true);
    }

    private static void parameters(Class<?> type) {
        for (Method method : type.getDeclaredMethods()) {
            Due.is(method + ", at most seven parameters", method.getParameterCount() <= 7, true);
        }
    }
}
