import java.io.IOException;
import java.lang.reflect.Method;
import java.lang.reflect.Modifier;
import java.nio.file.Files;
import java.nio.file.Path;
import java.util.List;
import java.util.regex.Matcher;
import java.util.regex.Pattern;

/** README.md holds: its example answers what it says, its texts are LIBRARIES, each call has a row with its exceptions. */
public final class ReadmeTest {
    private static final Pattern EXAMPLE = Pattern.compile("x\\.(\\w+)\\(([^)]*)\\);\\s*// (-?\\d+).*");
    private static final Pattern ROW = Pattern.compile("\\| `(\\w+)\\(([^)]*)\\)` \\|(.*)\\|(.*)\\|");
    private static final Pattern LINE = Pattern.compile("\\| `([^`(]*;)` \\|.*");

    public static void main(String[] args) throws IOException, ReflectiveOperationException {
        List<String> page = Files.readAllLines(Path.of("README.md"));
        example(page);
        textLines(page);
        rows(page);
        Checks.end();
    }

    private static void example(List<String> page) throws ReflectiveOperationException {
        StoutShelf x = new StoutShelf();
        int calls = 0;
        for (String line : page) {
            Matcher found = EXAMPLE.matcher(line);
            if (found.matches()) {
                String[] words = found.group(2).isEmpty() ? new String[0] : found.group(2).split(", ");
                Object[] numbers = new Object[words.length];
                for (int i = 0; i < words.length; i++) {
                    numbers[i] = Integer.decode(words[i]);
                }
                Object got = method(found.group(1)).invoke(x, numbers);
                Checks.due(line, (Integer) got, Integer.parseInt(found.group(3)));
                calls++;
            }
        }
        Checks.due("calls of the example", calls, 9);
    }

    /* The lines that a text may have, as the page shows them, make a LIBRARY together. */
    private static void textLines(List<String> page) {
        StringBuilder text = new StringBuilder();
        for (String line : page) {
            Matcher found = LINE.matcher(line);
            if (found.matches()) {
                text.append(found.group(1).startsWith("wants") ? "book 9;" : "").append(found.group(1));
            }
        }
        StoutShelf x = Checks.told(text.toString());
        Checks.due("READERS of " + text, x.count(1), 1);
        Checks.due("BOOKS of " + text, x.count(0), 2);
        Checks.due("who has BOOK 0", x.book(0, 5), 0);
        Checks.due("what READER 0 WANTS", x.reader(0, 0), 1);
        Checks.due("PAGES of BOOK 0", x.book(0, 4), 51);
    }

    private static void rows(List<String> page) throws ReflectiveOperationException {
        int rows = 0;
        for (String line : page) {
            Matcher found = ROW.matcher(line);
            if (found.matches()) {
                Method call = method(found.group(1));
                int given = found.group(2).isEmpty() ? 0 : found.group(2).split(", ").length;
                Checks.due("arguments of " + call, given, call.getParameterCount());
                List<Class<?>> thrown = List.of(call.getExceptionTypes());
                String said = found.group(4);
                Checks.due("NSE of " + call, said.contains("NSE") ? 1 : 0,
                        thrown.contains(java.util.NoSuchElementException.class) ? 1 : 0);
                Checks.due("IAE of " + call, said.contains("IAE") ? 1 : 0,
                        thrown.contains(IllegalArgumentException.class) ? 1 : 0);
                rows++;
            }
        }
        Checks.due("rows of calls", rows, 28);
    }

    private static Method method(String name) throws NoSuchMethodException {
        for (Method m : StoutShelf.class.getDeclaredMethods()) {
            if (m.getName().equals(name) && Modifier.isPublic(m.getModifiers())) {
                return m;
            }
        }
        throw new NoSuchMethodException(name);
    }
}
