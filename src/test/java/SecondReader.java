import java.util.ArrayDeque;
import java.util.ArrayList;
import java.util.List;
import java.util.regex.Matcher;
import java.util.regex.Pattern;

/** Finds the FAULT of a TEXT apart from the program, by a stack of what must follow. */
final class SecondReader {
    private static final Pattern TOKEN = Pattern.compile("[ \n]+|[a-z]+|[0-9]+|.", Pattern.DOTALL);

    private final ArrayDeque<String> must = new ArrayDeque<>();
    private int readers;
    private int books;
    private boolean law;
    private final List<Integer> told = new ArrayList<>();
    private int wanting;

    /* The FAULT in the upper half, its place in the lower; 0 and -1 without. */
    long read(String text) {
        must.push("LIBRARY");
        Matcher matcher = TOKEN.matcher(text);
        while (matcher.find()) {
            String token = matcher.group();
            if (token.isBlank() && (token.charAt(0) == ' ' || token.charAt(0) == '\n')) {
                continue;
            }
            int fault = take(token);
            if (fault != 0) {
                return (long) fault << 32 | matcher.start();
            }
        }
        while (!must.isEmpty() && (must.peek().startsWith("MORE") || must.peek().equals("LIBRARY"))) {
            must.pop();
        }
        return must.isEmpty() ? 0xffffffffL : 1L << 32 | text.length();
    }

    private void expect(String... symbols) {
        for (int i = symbols.length - 1; i >= 0; i--) {
            must.push(symbols[i]);
        }
    }

    /* Opens what must follow till a single token is asked for, and takes the token there. */
    private int take(String token) {
        while (true) {
            String top = must.pop();
            String[] parts = top.split(":");
            int depth = parts.length > 1 ? Integer.parseInt(parts[1]) : 0;
            boolean word = token.charAt(0) >= 'a' && token.charAt(0) <= 'z';
            boolean number = token.charAt(0) >= '0' && token.charAt(0) <= '9';
            String d = ":" + depth;
            switch (parts[0]) {
                case "LIBRARY":
                    return line(token);
                case "MOREBLANKS", "MOREPLATES", "MORETORN":
                    if (token.equals(top.substring(4).toLowerCase())) {
                        expect("PART99:0");
                        return 0;
                    }
                    break;
                case "MOREOF":
                    if (token.equals("of")) {
                        expect("READER");
                        return 0;
                    }
                    break;
                case "PART99":
                    return number ? token.length() > 4 || Integer.parseInt(token) > 99
                            || Integer.parseInt(token) < depth ? 2 : 0 : 1;
                case "READER":
                    return number ? token.length() > 4 ? 2 : Integer.parseInt(token) < readers ? 0 : 3 : 1;
                case "WANTING":
                    if (!number) return 1;
                    if (token.length() > 4) return 2;
                    wanting = Integer.parseInt(token);
                    if (wanting >= readers) return 3;
                    if (told.contains(wanting)) return 4;
                    told.add(wanting);
                    return 0;
                case "BOOK":
                    return number ? token.length() > 4 ? 2 : Integer.parseInt(token) < books ? 0 : 3 : 1;
                case "EXPR":
                    if (depth == 6) return word || number || token.equals("(") ? 2 : 1;
                    expect("AND" + d, "MOREOR" + d);
                    break;
                case "AND":
                    expect("NOT" + d + ":0", "MOREAND" + d);
                    break;
                case "NOT":
                    int nots = Integer.parseInt(parts[2]);
                    if (token.equals("not")) {
                        expect("NOT" + d + ":" + (nots + 1));
                        return nots == 6 ? 2 : 0;
                    }
                    expect("SUM" + d, "MORETEST" + d);
                    break;
                case "SUM":
                    expect("PRODUCT" + d, "MORESUM" + d);
                    break;
                case "PRODUCT":
                    expect("PART" + d, "MOREPRODUCT" + d);
                    break;
                case "MOREOR":
                    if (token.equals("or")) {
                        expect("AND" + d, top);
                        return 0;
                    }
                    break;
                case "MOREAND":
                    if (token.equals("and")) {
                        expect("NOT" + d + ":0", top);
                        return 0;
                    }
                    break;
                case "MORETEST":
                    if (token.equals("<") || token.equals("=")) {
                        expect("SUM" + d);
                        return 0;
                    }
                    break;
                case "MORESUM":
                    if (token.equals("+") || token.equals("-")) {
                        expect("PRODUCT" + d, top);
                        return 0;
                    }
                    break;
                case "MOREPRODUCT":
                    if (token.equals("*") || token.equals("/")) {
                        expect("PART" + d, top);
                        return 0;
                    }
                    break;
                case "PART":
                    return part(token, word, number, ":" + (depth + 1));
                default:
                    return token.equals(top) ? 0 : 1;
            }
        }
    }

    private int part(String token, boolean word, boolean number, String deeper) {
        if (number) return token.length() > 4 ? 2 : 0;
        if (token.equals("(")) {
            expect("EXPR" + deeper, ")");
            return 0;
        }
        if (token.equals("if")) {
            expect("EXPR" + deeper, "then", "EXPR" + deeper, "else", "EXPR" + deeper, "end");
            return 0;
        }
        return !word ? 1 : List.of("leaves", "blanks", "plates", "torn").contains(token) ? 0 : 3;
    }

    private int line(String token) {
        switch (token) {
            case "reader":
                expect(";", "LIBRARY");
                return ++readers > 5 ? 2 : 0;
            case "book":
                expect("PART99:1", "MOREBLANKS", "MOREPLATES", "MORETORN", "MOREOF", ";", "LIBRARY");
                return ++books > 12 ? 2 : 0;
            case "wants":
                expect("WANTING", "BOOK", ";", "LIBRARY");
                return 0;
            case "law":
                expect("EXPR:0", ";", "LIBRARY");
                boolean second = law;
                law = true;
                return second ? 4 : 0;
            default:
                return 1;
        }
    }
}
