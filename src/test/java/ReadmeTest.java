import java.io.IOException;
import java.lang.reflect.Field;
import java.lang.reflect.Method;
import java.lang.reflect.Modifier;
import java.nio.file.Files;
import java.nio.file.Path;
import java.util.ArrayList;
import java.util.List;
import java.util.TreeSet;
import java.util.regex.Matcher;
import java.util.regex.Pattern;
import java.util.stream.Collectors;
import java.util.stream.Stream;

/** README.md says what is so; it is read from the folder of the project, where .ci/run stands. */
public final class ReadmeTest extends Checks {
    private static final Pattern CALL = Pattern.compile("heap\\.(\\w+)\\(([^)]*)\\);\\s+// (-?\\w+)(:.*)?");

    private static String readme() throws IOException {
        return Files.readString(Path.of("README.md"));
    }

    /** The example's lines that call the heap. */
    private static List<Matcher> calls() throws IOException {
        String text = readme();
        int from = text.indexOf("```java");
        List<Matcher> calls = new ArrayList<>();
        for (String line : text.substring(from, text.indexOf("\n```\n", from)).split("\n")) {
            Matcher call = CALL.matcher(line);
            if (line.startsWith("heap.")) {
                due("the form of '" + line + "'", call.matches(), true);
                calls.add(call);
            }
        }
        return calls;
    }

    private static Object argument(Class<?> type, String text) {
        return type == boolean.class ? (Object) Boolean.valueOf(text) : (Object) Integer.valueOf(text);
    }

    private static Object answer(DirtyCardHeap heap, String name, String arguments)
            throws ReflectiveOperationException {
        String[] texts = arguments.isEmpty() ? new String[0] : arguments.split(", ");
        for (Method m : face()) {
            if (m.getName().equals(name) && m.getParameterCount() == texts.length) {
                Object[] all = new Object[texts.length];
                for (int i = 0; i < texts.length; i++) {
                    all[i] = argument(m.getParameterTypes()[i], texts[i]);
                }
                return m.invoke(heap, all);
            }
        }
        return "no such call";
    }

    private static Method[] face() {
        return Stream.of(DirtyCardHeap.class.getDeclaredMethods())
                .filter(m -> Modifier.isPublic(m.getModifiers()))
                .toArray(Method[]::new);
    }

    private static Field[] constants() {
        return Stream.of(DirtyCardHeap.class.getDeclaredFields())
                .filter(f -> Modifier.isPublic(f.getModifiers()))
                .toArray(Field[]::new);
    }

    /** A number, true or false as it stands, and a constant's value for its name. */
    private static String valueOf(String text) throws IllegalAccessException {
        for (Field f : constants()) {
            if (f.getName().equals(text)) {
                return Integer.toString(f.getInt(null));
            }
        }
        return text;
    }

    private static void theExampleAnswersSo() throws IOException, ReflectiveOperationException {
        DirtyCardHeap heap = new DirtyCardHeap();
        int number = 0;
        for (Matcher call : calls()) {
            number++;
            Object got = answer(heap, call.group(1), call.group(2));
            due("call " + number + ", " + call.group(1) + "(" + call.group(2) + ")", got.toString(),
                    valueOf(call.group(3)));
        }
    }

    private static void theExampleHasEveryCall() throws IOException {
        TreeSet<String> called = new TreeSet<>();
        for (Matcher call : calls()) {
            called.add(call.group(1));
        }
        for (Method m : face()) {
            due(m.getName() + " is called", called.contains(m.getName()), true);
        }
    }

    private static void everyCallIsTold() throws IOException {
        String text = readme();
        for (Method m : face()) {
            String types = Stream.of(m.getParameterTypes())
                    .map(t -> t.getName() + " \\w+")
                    .collect(Collectors.joining(", "));
            Pattern told = Pattern.compile("\\| `" + m.getReturnType() + " " + m.getName() + "\\(" + types + "\\)` \\|");
            due(m + " is told", told.matcher(text).find(), true);
        }
        due("the constructor is told", text.contains("| `DirtyCardHeap()` |"), true);
    }

    private static void everyConstantIsTold() throws IOException, IllegalAccessException {
        String text = readme();
        for (Field f : constants()) {
            String told = "| `" + f.getName() + " = " + f.getInt(null) + "` |";
            due(told, text.contains(told), true);
        }
    }

    private static void everyTestIsTold() throws IOException {
        String text = readme();
        try (Stream<Path> files = Files.list(Path.of("src/test/java"))) {
            files.map(f -> f.getFileName().toString().replace(".java", ""))
                    .forEach(name -> due(name + " is told", text.contains("`" + name + "`"), true));
        }
    }

    public static void main(String[] args) throws ReflectiveOperationException {
        run(ReadmeTest.class, false);
    }
}
