import java.io.IOException;
import java.lang.reflect.Constructor;
import java.lang.reflect.Field;
import java.lang.reflect.Method;
import java.lang.reflect.Modifier;
import java.nio.file.Files;
import java.nio.file.Path;
import java.util.List;
import java.util.Set;
import java.util.TreeSet;

/** The face as the document has it, and those rules of LANGUAGE.md that a look at the source can tell. */
public final class RulesTest {
    private static final String[] FACE = {"feed 5", "library 1", "fault 0", "count 1", "book 2", "reader 2", "exchange 3",
        "swap 4", "judge 3", "undo 0", "move 2", "reach 1", "way 2", "together 3", "week 0", "row 2", "lost 2", "worth 1",
        "bind 2", "fire 1", "event 3", "forget 0", "orders 0", "there 2", "knot 0", "hands 2", "image 0", "restore 0"};
    private static final String[] BANNED = {"->", "::", "finally", "synchronized", "assert ", "catch", "Exact(",
        "static {", "while (true)", "for (;;)", "System.out", "System.nano", "System.current", "Random", "Thread", "var ",
        "getMessage", "hashCode", "toString", "String.format", "Object "};

    public static void main(String[] args) throws IOException {
        face();
        source(Files.readAllLines(Path.of("src/main/java/StoutShelf.java")));
        Checks.end();
    }

    private static void face() {
        Set<String> want = new TreeSet<>(List.of(FACE));
        Set<String> got = new TreeSet<>();
        for (Method m : StoutShelf.class.getDeclaredMethods()) {
            if (!Modifier.isPrivate(m.getModifiers()) && !m.isSynthetic()) {
                got.add(m.getName() + " " + m.getParameterCount());
                Checks.due(m + " is public", Modifier.isPublic(m.getModifiers()) ? 1 : 0, 1);
                Checks.due(m + " is of an object", Modifier.isStatic(m.getModifiers()) ? 1 : 0, 0);
                boolean right = m.getName().equals("image") ? m.getReturnType() == void.class
                        : m.getReturnType() == (m.getName().equals("restore") ? boolean.class : int.class);
                Checks.due(m + " answers its type", right ? 1 : 0, 1);
            }
        }
        Checks.due("the face's methods are " + got, got.equals(want) ? 1 : 0, 1);
        for (Field f : StoutShelf.class.getDeclaredFields()) {
            Checks.due(f + " is private", Modifier.isPrivate(f.getModifiers()) || f.getName().equals("NONE") ? 1 : 0, 1);
        }
        Constructor<?>[] constructors = StoutShelf.class.getDeclaredConstructors();
        Checks.due("constructors", constructors.length, 1);
        Checks.due("public constructor", Modifier.isPublic(constructors[0].getModifiers()) ? 1 : 0, 1);
        Checks.due("final class", Modifier.isFinal(StoutShelf.class.getModifiers()) ? 1 : 0, 1);
        Checks.due("NONE", StoutShelf.NONE, -1);
        nested(got);
    }

    private static void nested(Set<String> face) {
        Class<?>[] inside = StoutShelf.class.getDeclaredClasses();
        Checks.due("classes are few", inside.length <= 11 ? 1 : 0, 1);
        for (Class<?> c : inside) {
            Checks.due(c + " is static", Modifier.isStatic(c.getModifiers()) ? 1 : 0, 1);
            int fields = 0;
            for (Field f : c.getDeclaredFields()) {
                fields += Modifier.isStatic(f.getModifiers()) ? 0 : 1;
            }
            Checks.due(c + " has few fields", fields <= 20 ? 1 : 0, 1);
            for (Method m : c.getDeclaredMethods()) {
                boolean borne = face.stream().anyMatch(name -> name.startsWith(m.getName() + " "));
                Checks.due(m + " bears no public name", borne ? 1 : 0, 0);
                Checks.due(m + " takes at most seven", m.getParameterCount() <= 7 ? 1 : 0, 1);
            }
        }
    }

    private static void source(List<String> lines) {
        int open = 0;
        for (int i = 0; i < lines.size(); i++) {
            String line = lines.get(i);
            for (String banned : BANNED) {
                boolean found = line.contains(banned) && !line.strip().startsWith("*") && !line.strip().startsWith("/*");
                Checks.due("line " + (i + 1) + " has " + banned, found ? 1 : 0, 0);
            }
            if (line.startsWith("import")) {
                boolean right = line.equals("import java.util.Arrays;")
                        || line.equals("import java.util.NoSuchElementException;");
                Checks.due(line, right ? 1 : 0, 1);
            }
            if (line.matches("( {4}| {8})[a-z].*\\) .*\\{|( {4}| {8})[a-z].*\\) \\{")) {
                open = i;
            }
            if (line.equals("    }") || line.equals("        }")) {
                Checks.due("lines of the method that ends at " + (i + 1), i - open < 60 ? 1 : 0, 1);
            }
            Checks.due("line " + (i + 1) + " is ASCII", line.chars().allMatch(c -> c < 128) ? 1 : 0, 1);
        }
    }
}
