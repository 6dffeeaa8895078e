import java.io.IOException;
import java.lang.reflect.Constructor;
import java.lang.reflect.Field;
import java.lang.reflect.Method;
import java.lang.reflect.Modifier;
import java.nio.file.Files;
import java.nio.file.Path;
import java.util.List;
import java.util.Set;
import java.util.TreeSet;
import java.util.regex.Matcher;
import java.util.regex.Pattern;
import java.util.stream.Collectors;
import java.util.stream.Stream;

/** The face as the document has it, and those rules of LANGUAGE.md that a look at the source can tell. */
public final class RulesTest {
    private static final Pattern FACE = Pattern.compile("    public (\\w+) (\\w+)\\(([^)]*)\\)( throws .*)?;");
    private static final String[] BANNED = {"->", "::", "finally", "synchronized", "assert ", "catch", "Exact(",
        "static {", "while (true)", "for (;;)", "System.out", "System.nano", "System.current", "Random", "Thread", "var ",
        "getMessage", "hashCode", "toString", "String.format", "Object "};

    public static void main(String[] args) throws IOException {
        face();
        source(Files.readAllLines(Path.of("src/main/java/StoutShelf.java")));
        Checks.end();
    }

    /* What the document's own lines of the face say, in the form of faceOf. */
    private static Set<String> faceOfDocument() throws IOException {
        Set<String> face = new TreeSet<>();
        for (String line : Files.readAllLines(Path.of("../shared/DOC.md"))) {
            Matcher found = FACE.matcher(line);
            if (found.matches()) {
                String types = found.group(3).replaceAll(" \\w+(,|$)", "$1");
                String thrown = found.group(4) == null ? "" : found.group(4);
                face.add(found.group(1) + " " + found.group(2) + "(" + types + ")" + thrown);
            }
        }
        return face;
    }

    private static String faceOf(Method m) {
        String types = names(m.getParameterTypes());
        String thrown = names(m.getExceptionTypes());
        return m.getReturnType().getSimpleName() + " " + m.getName() + "(" + types + ")"
                + (thrown.isEmpty() ? "" : " throws " + thrown);
    }

    private static String names(Class<?>[] types) {
        return Stream.of(types).map(Class::getSimpleName).collect(Collectors.joining(", "));
    }

    private static void face() throws IOException {
        Set<String> want = faceOfDocument();
        Checks.due("methods of the document's face", want.size(), 28);
        Set<String> got = new TreeSet<>();
        Set<String> borne = new TreeSet<>();
        for (Method m : StoutShelf.class.getDeclaredMethods()) {
            if (!Modifier.isPrivate(m.getModifiers()) && !m.isSynthetic()) {
                got.add(faceOf(m));
                borne.add(m.getName());
                Checks.due(m + " is public", Modifier.isPublic(m.getModifiers()) ? 1 : 0, 1);
                Checks.due(m + " is of an object", Modifier.isStatic(m.getModifiers()) ? 1 : 0, 0);
            }
        }
        Checks.due("the face's methods are " + got, got.equals(want) ? 1 : 0, 1);
        for (Field f : StoutShelf.class.getDeclaredFields()) {
            Checks.due(f + " is private", Modifier.isPrivate(f.getModifiers()) || f.getName().equals("NONE") ? 1 : 0, 1);
        }
        Constructor<?>[] constructors = StoutShelf.class.getDeclaredConstructors();
        Checks.due("constructors", constructors.length, 1);
        Checks.due("public constructor", Modifier.isPublic(constructors[0].getModifiers()) ? 1 : 0, 1);
        Checks.due("final class", Modifier.isFinal(StoutShelf.class.getModifiers()) ? 1 : 0, 1);
        Checks.due("NONE", StoutShelf.NONE, -1);
        bearsNoPublicName(StoutShelf.class, borne);
        nested(borne);
    }

    private static void nested(Set<String> face) {
        Class<?>[] inside = StoutShelf.class.getDeclaredClasses();
        Checks.due("classes are few", inside.length <= 11 ? 1 : 0, 1);
        for (Class<?> c : inside) {
            Checks.due(c + " is static", Modifier.isStatic(c.getModifiers()) ? 1 : 0, 1);
            int fields = 0;
            for (Field f : c.getDeclaredFields()) {
                fields += Modifier.isStatic(f.getModifiers()) ? 0 : 1;
            }
            Checks.due(c + " has few fields", fields <= 20 ? 1 : 0, 1);
            bearsNoPublicName(c, face);
        }
    }

    private static void bearsNoPublicName(Class<?> c, Set<String> face) {
        for (Method m : c.getDeclaredMethods()) {
            boolean borne = face.contains(m.getName()) && !Modifier.isPublic(m.getModifiers());
            Checks.due(m + " bears no public name", borne ? 1 : 0, 0);
            Checks.due(m + " takes at most seven", m.getParameterCount() <= 7 ? 1 : 0, 1);
        }
    }

    private static void source(List<String> lines) {
        int open = 0;
        for (int i = 0; i < lines.size(); i++) {
            String line = lines.get(i);
            for (String banned : BANNED) {
                boolean found = line.contains(banned) && !line.strip().startsWith("*") && !line.strip().startsWith("/*");
                Checks.due("line " + (i + 1) + " has " + banned, found ? 1 : 0, 0);
            }
            if (line.startsWith("import")) {
                boolean right = line.equals("import java.util.Arrays;")
                        || line.equals("import java.util.NoSuchElementException;");
                Checks.due(line, right ? 1 : 0, 1);
            }
            if (line.matches("( {4}| {8})[a-z].*\\) .*\\{|( {4}| {8})[a-z].*\\) \\{")) {
                open = i;
            }
            if (line.equals("    }") || line.equals("        }")) {
                Checks.due("lines of the method that ends at " + (i + 1), i - open < 60 ? 1 : 0, 1);
            }
            Checks.due("line " + (i + 1) + " is ASCII", line.chars().allMatch(c -> c < 128) ? 1 : 0, 1);
        }
    }
}
