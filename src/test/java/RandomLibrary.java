import java.util.Random;

/** A random LIBRARY: its TEXT, and what it tells, reckoned apart from the program. */
final class RandomLibrary {
    interface Expr {
        int value(int[] parts);
    }

    final int books;
    final int readers;
    final int[][] parts;
    final int[] owner;
    final int[] wants;
    final String text;
    private Expr law = p -> p[0];
    private final Random random;
    private final StringBuilder out = new StringBuilder();

    RandomLibrary(Random random, int mostBooks) {
        this(random, random.nextInt(6), random.nextInt(mostBooks + 1), random.nextInt(4) > 0);
    }

    /* A full LIBRARY without a LAW: THE SHELF's BOOKS are the shorter ones, so that much can be exchanged. */
    static RandomLibrary full(Random random) {
        return new RandomLibrary(random, 2 + random.nextInt(4), 11 + random.nextInt(2), false);
    }

    private RandomLibrary(Random random, int readers, int books, boolean withLaw) {
        this.random = random;
        this.readers = readers;
        this.books = books;
        parts = new int[books][4];
        owner = new int[books];
        wants = new int[readers];
        for (int r = 0; r < readers; r++) {
            out.append("reader;");
        }
        int span = random.nextBoolean() ? 99 : 8;
        for (int b = 0; b < books; b++) {
            tellBook(b, span);
        }
        for (int r = 0; r < readers; r++) {
            wants[r] = -1;
            if (books > 0 && random.nextInt(4) > 0) {
                wants[r] = random.nextInt(books);
                out.append("wants ").append(r).append(' ').append(wants[r]).append(';');
            }
        }
        if (withLaw) {
            tellLaw();
        }
        text = out.toString();
    }

    int pages(int book) {
        return law.value(parts[book]);
    }

    int pagesOf(int[] those) {
        return law.value(those);
    }

    private void tellBook(int b, int span) {
        owner[b] = readers > 0 && random.nextInt(5) < 3 ? random.nextInt(readers) : -1;
        parts[b][0] = 1 + random.nextInt(span);
        if (books > 10 && owner[b] == -1) {
            parts[b][0] = 1 + parts[b][0] / 2;
        }
        out.append("book ").append(parts[b][0]);
        String[] names = {"", " blanks ", " plates ", " torn "};
        for (int k = 1; k < 4; k++) {
            if (random.nextInt(3) == 0) {
                parts[b][k] = random.nextInt(span + 1);
                out.append(names[k]).append(parts[b][k]);
            }
        }
        if (owner[b] != -1) {
            out.append(" of ").append(owner[b]);
        }
        out.append(';');
    }

    private void tellLaw() {
        int before = out.length();
        out.append("law ");
        if (random.nextInt(3) == 0) {
            int by = 1 + random.nextInt(4);
            out.append("leaves+blanks/").append(by).append("+2*plates-torn");
            law = p -> p[0] + p[1] / by + 2 * p[2] - p[3];
        } else {
            law = expr(0);
        }
        out.append(random.nextBoolean() ? ";" : " \n;");
        if (out.length() > 700) {
            out.setLength(before);
            law = p -> p[0];
        }
    }

    private boolean more(int depth) {
        return random.nextInt(4 + 2 * depth) == 0;
    }

    private Expr expr(int depth) {
        Expr all = conjunction(depth);
        while (more(depth)) {
            out.append(" or ");
            Expr left = all;
            Expr right = conjunction(depth);
            all = p -> left.value(p) != 0 | right.value(p) != 0 ? 1 : 0;
        }
        return all;
    }

    private Expr conjunction(int depth) {
        Expr all = negation(depth);
        while (more(depth)) {
            out.append(" and ");
            Expr left = all;
            Expr right = negation(depth);
            all = p -> left.value(p) != 0 & right.value(p) != 0 ? 1 : 0;
        }
        return all;
    }

    private Expr negation(int depth) {
        int nots = random.nextInt(6) == 0 ? random.nextInt(7) : 0;
        for (int i = 0; i < nots; i++) {
            out.append("not ");
        }
        Expr all = sum(depth);
        if (more(depth)) {
            boolean less = random.nextBoolean();
            out.append(less ? "<" : " = ");
            Expr left = all;
            Expr right = sum(depth);
            all = less ? p -> left.value(p) < right.value(p) ? 1 : 0 : p -> left.value(p) == right.value(p) ? 1 : 0;
        }
        for (int i = 0; i < nots; i++) {
            Expr inner = all;
            all = p -> inner.value(p) == 0 ? 1 : 0;
        }
        return all;
    }

    private Expr sum(int depth) {
        Expr all = product(depth);
        while (more(depth)) {
            boolean plus = random.nextBoolean();
            out.append(plus ? "+" : " - ");
            Expr left = all;
            Expr right = product(depth);
            all = plus ? p -> left.value(p) + right.value(p) : p -> left.value(p) - right.value(p);
        }
        return all;
    }

    private Expr product(int depth) {
        Expr all = part(depth);
        while (more(depth)) {
            boolean times = random.nextBoolean();
            out.append(times ? "*" : "/");
            Expr left = all;
            Expr right = part(depth);
            all = times ? p -> left.value(p) * right.value(p)
                    : p -> right.value(p) == 0 ? 0 : left.value(p) / right.value(p);
        }
        return all;
    }

    private Expr part(int depth) {
        int kind = random.nextInt(depth < 5 ? 10 : 7);
        if (kind < 5) {
            int k = kind % 4;
            out.append(new String[] {"leaves", "blanks", "plates", "torn"}[k]);
            return p -> p[k];
        }
        if (kind < 7) {
            int n = random.nextInt(random.nextBoolean() ? 10 : 10000);
            out.append(n);
            return p -> n;
        }
        if (kind < 9) {
            out.append('(');
            Expr inner = expr(depth + 1);
            out.append(')');
            return inner;
        }
        out.append("if ");
        Expr test = expr(depth + 1);
        out.append(" then ");
        Expr then = expr(depth + 1);
        out.append(" else ");
        Expr otherwise = expr(depth + 1);
        out.append(" end");
        return p -> test.value(p) != 0 ? then.value(p) : otherwise.value(p);
    }
}
