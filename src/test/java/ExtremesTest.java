import java.util.ArrayList;
import java.util.List;

/** Every call with every mixture of far-off numbers, in several states: it throws what the document says, or nothing. */
public final class ExtremesTest {
    private static final int[] FAR = {Integer.MIN_VALUE, Integer.MIN_VALUE + 1, -33, -2, -1, 0, 1, 2, 3, 4, 5, 6, 7, 8, 9,
        11, 12, 13, 16, 31, 32, 33, 64, 199, 200, 201, 700, 701, 1 << 29, 1 << 30, Integer.MAX_VALUE - 1, Integer.MAX_VALUE};
    private static final int[] FEW = {Integer.MIN_VALUE, -2, -1, 0, 1, 4, 5, 11, 12, 32, Integer.MAX_VALUE};

    private final StoutShelf x;
    private final int books;
    private final int readers;
    private final int moves;
    private final int events;
    private final int row;

    private ExtremesTest(StoutShelf x, int row) {
        this.x = x;
        this.row = row;
        books = x.count(0);
        readers = x.count(1);
        moves = x.count(3);
        events = x.count(4);
    }

    /* Some states that the document's limits make: new, empty, ordinary, and as full as can be. */
    private static List<ExtremesTest> states() {
        List<ExtremesTest> all = new ArrayList<>();
        all.add(new ExtremesTest(new StoutShelf(), -1));
        all.add(new ExtremesTest(Checks.told(""), -1));
        all.add(new ExtremesTest(Checks.told("reader;reader;"), -1));
        all.add(new ExtremesTest(Checks.told("book 1;book 2;"), -1));
        StoutShelf some = Checks.told("reader;reader;book 9 of 0;book 8 of 1;book 7;wants 0 2;");
        some.exchange(1, 1, 2);
        some.event(0, 0, 1);
        some.week();
        all.add(new ExtremesTest(some, some.row(-1, 0)));
        StoutShelf full = Checks.told("reader;".repeat(5) + "book 9 of 0;book 8 of 1;" + "book 7;".repeat(10)
                + "wants 4 11;law leaves*9999*9999/(blanks-1);");
        for (int i = 0; i < 200; i++) {
            full.swap(0, i % 2, 1, 1 - i % 2);
        }
        for (int i = 0; i < 8; i++) {
            full.event(i % 5, i, i + 4);
        }
        full.week();
        full.image();
        all.add(new ExtremesTest(full, full.row(-1, 0)));
        return all;
    }

    public static void main(String[] args) {
        Checks.sentence("NoSuchElementException: no such BOOK (as everywhere), what.", () -> {
            for (ExtremesTest state : states()) {
                state.ofOne();
                state.ofTwo();
                state.ofThree();
            }
        });
        Checks.end();
    }

    private boolean isBook(int b) {
        return b >= 0 && b < books;
    }

    private boolean isReader(int r) {
        return r >= 0 && r < readers;
    }

    private static boolean within(int n, int least, int most) {
        return n >= least && n <= most;
    }

    private static String noSuchUnless(boolean fine) {
        return fine ? Checks.NOTHING : Checks.NO_SUCH;
    }

    private static String illegalUnless(boolean fine) {
        return fine ? Checks.NOTHING : Checks.ILLEGAL;
    }

    private static void ends(String call, String want, Checks.Call run) {
        Checks.dueThrow(call, want, run);
    }

    private void ofOne() {
        for (int n : FAR) {
            ends("count " + n, noSuchUnless(within(n, 0, 8)), () -> x.count(n));
            ends("reach " + n, noSuchUnless(isReader(n)), () -> x.reach(n));
            ends("fire " + n, illegalUnless(within(n, 0, 12)), () -> x.fire(n));
            boolean his = isBook(n) && x.book(n, 5) != -1;
            ends("worth " + n, isBook(n) ? illegalUnless(his) : Checks.NO_SUCH, () -> x.worth(n));
            if (n != 0) {
                ends("library " + n, Checks.ILLEGAL, () -> x.library(n));
            }
        }
    }

    private void ofTwo() {
        for (int a : FAR) {
            for (int b : FAR) {
                String of = "(" + a + ", " + b + ")";
                ends("book" + of, noSuchUnless(isBook(a) && within(b, 0, 5)), () -> x.book(a, b));
                ends("reader" + of, noSuchUnless(isReader(a) && within(b, 0, 2)), () -> x.reader(a, b));
                ends("move" + of, noSuchUnless(within(a, 0, moves - 1) && within(b, 0, 3)), () -> x.move(a, b));
                ends("way" + of, noSuchUnless(isReader(a) && isBook(b)), () -> x.way(a, b));
                boolean inRow = row >= 0 && (a == -1 || within(a, 0, row - 1) && within(b, 0, 2));
                ends("row" + of, noSuchUnless(inRow), () -> x.row(a, b));
                ends("lost" + of, noSuchUnless(isBook(a) && within(b, 0, 1)), () -> x.lost(a, b));
                ends("bind" + of, noSuchUnless(isReader(a) && within(b, 0, 1)), () -> x.bind(a, b));
                ends("there" + of, isBook(a) ? illegalUnless(within(b, 0, events)) : Checks.NO_SUCH, () -> x.there(a, b));
                int hands = isBook(a) ? x.hands(a, -1) : 0;
                ends("hands" + of, noSuchUnless(isBook(a) && within(b, -1, hands - 1)), () -> x.hands(a, b));
            }
        }
    }

    private void ofThree() {
        for (int a : FEW) {
            for (int b : FEW) {
                for (int c : FEW) {
                    String of = "(" + a + ", " + b + ", " + c + ")";
                    boolean known = isReader(a) && isReader(b) && isBook(c);
                    ends("together" + of, known ? illegalUnless(a != b) : Checks.NO_SUCH, () -> x.together(a, b, c));
                    movesEnd(a, b, c, of);
                }
            }
        }
    }

    /* MOVES and EVENTS throw nothing; what they change is taken back, so that the state stays. */
    private void movesEnd(int a, int b, int c, String of) {
        ends("judge" + of, Checks.NOTHING, () -> x.judge(a, b, c));
        ends("exchange" + of, Checks.NOTHING, () -> x.exchange(a, b, c) == 0 ? x.undo() : 0);
        ends("event" + of, Checks.NOTHING, () -> x.event(a, b, c) != -1 ? x.forget() : 0);
        for (int d : FEW) {
            ends("swap" + of + d, Checks.NOTHING, () -> x.swap(a, b, c, d) == 0 ? x.undo() : 0);
        }
    }
}
