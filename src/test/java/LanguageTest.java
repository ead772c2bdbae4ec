import java.io.IOException;
import java.lang.reflect.Field;
import java.lang.reflect.Method;
import java.lang.reflect.Modifier;
import java.nio.file.Files;
import java.nio.file.Path;
import java.util.ArrayList;
import java.util.Arrays;
import java.util.List;
import java.util.Set;
import java.util.TreeSet;
import java.util.regex.Matcher;
import java.util.regex.Pattern;
import java.util.stream.Collectors;

/** What LANGUAGE.md rules out, by the rules' numbers, as far as it is plain to see. */
public final class LanguageTest extends Checks {
    private static final Set<String> LIBRARY = Set.of("String", "StringBuilder", "Integer", "Long", "Math",
            "ArrayList", "List", "Iterator", "Iterable", "Comparable", "System", "Arrays");
    private static final Set<String> CONSTANT_TYPES = Set.of("int", "long", "boolean", "char",
            "java.lang.String", "[I", "[J", "[C", "[B");

    /** The class without its comments, texts and characters. */
    private static String code() throws IOException {
        return Files.readString(Path.of("src/main/java/DirtyCardHeap.java"))
                .replaceAll("(?s)/\\*.*?\\*/", " ")
                .replaceAll("//[^\n]*", " ")
                .replaceAll("\"(\\\\.|[^\"\\\\])*\"|'(\\\\.|[^'\\\\])+'", "0");
    }

    private static Set<String> words() throws IOException {
        return new TreeSet<>(Arrays.asList(code().split("\\W+")));
    }

    private static List<Class<?>> classes() {
        List<Class<?>> all = new ArrayList<>(Arrays.asList(DirtyCardHeap.class.getDeclaredClasses()));
        all.add(DirtyCardHeap.class);
        return all;
    }

    private static void rule1NoPrivateMethodWithAPublicName() {
        Set<String> face = Arrays.stream(DirtyCardHeap.class.getDeclaredMethods())
                .filter(m -> Modifier.isPublic(m.getModifiers()))
                .map(Method::getName)
                .collect(Collectors.toSet());
        due("methods of the face", face.size(), 20);
        for (Class<?> c : classes()) {
            for (Method m : c.getDeclaredMethods()) {
                boolean ofTheFace = c == DirtyCardHeap.class && Modifier.isPublic(m.getModifiers());
                due(m + " has a name of the face", !ofTheFace && face.contains(m.getName()), false);
            }
        }
    }

    private static void rule2ClassesInside() throws IOException {
        for (Class<?> c : DirtyCardHeap.class.getDeclaredClasses()) {
            due(c + " is static", Modifier.isStatic(c.getModifiers()), true);
            due(c + " is public", Modifier.isPublic(c.getModifiers()), false);
            due(c + " is protected", Modifier.isProtected(c.getModifiers()), false);
            due("classes inside " + c, c.getDeclaredClasses().length, 0);
        }
        // A class inside a method would be told by none of these.
        Matcher named = Pattern.compile("\\b(class|interface|enum|record)\\s+[A-Z]").matcher(code());
        due("classes in the file", named.results().count(), classes().size());
        due("a lambda", code().contains("->"), false);
        due("a method reference", code().contains("::"), false);
        due("an anonymous class", Pattern.compile("\\bnew\\s+[\\w<>]+\\([^;{]*\\)\\s*\\{").matcher(code()).find(), false);
    }

    private static void rule4TheLibrary() throws IOException {
        Set<String> own = classes().stream().map(Class::getSimpleName).collect(Collectors.toSet());
        for (String word : words()) {
            boolean isType = word.matches("[A-Z]\\w*[a-z]\\w*");
            due(word + " is none of the library's", isType && !own.contains(word) && !LIBRARY.contains(word), false);
        }
        due("java. or javax.", Pattern.compile("\\bjavax?\\.(?!util\\.(ArrayList|List|Arrays|Iterator)\\b)")
                .matcher(code()).find(), false);
    }

    private static void rule5StaticFields() {
        for (Class<?> c : classes()) {
            for (Field f : c.getDeclaredFields()) {
                if (Modifier.isStatic(f.getModifiers())) {
                    due(f + " is final", Modifier.isFinal(f.getModifiers()), true);
                    due(f + " is a constant", CONSTANT_TYPES.contains(f.getType().getName()), true);
                }
            }
        }
    }

    private static void rule6Words() throws IOException {
        Set<String> words = words();
        for (String word : "throw throws try catch finally synchronized assert hashCode".split(" ")) {
            due(word + " is used", words.contains(word), false);
        }
    }

    private static void rule11Sizes() {
        due("at most twelve classes", classes().size() <= 12, true);
        for (Class<?> c : classes()) {
            long fields = Arrays.stream(c.getDeclaredFields())
                    .filter(f -> !Modifier.isStatic(f.getModifiers()))
                    .count();
            due("at most twenty fields in " + c, fields <= 20, true);
            for (Method m : c.getDeclaredMethods()) {
                due("at most seven parameters in " + m, m.getParameterCount() <= 7, true);
            }
        }
    }

    private static void rule11ShortMethods() throws IOException {
        // A method begins where a line that ends in '{' has its parameters, and ends with its own '}'.
        Matcher method = Pattern.compile("(?m)^( {4}| {8})\\w[\\w<>\\[\\] ]+\\([^;{]*\\) \\{\n(?s:.*?)^\\1\\}")
                .matcher(code());
        int methods = 0;
        for (Class<?> c : classes()) {
            methods += c.getDeclaredMethods().length;
        }
        int found = 0;
        while (method.find()) {
            found++;
            long lines = method.group().lines().count();
            due(method.group().lines().findFirst().orElse("") + " is short", lines <= 60, true);
        }
        due("methods were found", found >= methods, true);
    }

    public static void main(String[] args) throws ReflectiveOperationException {
        run(LanguageTest.class, false);
    }
}
