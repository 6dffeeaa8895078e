/** Promises 22 to 29, EVENTS, HANDS, images, STATUS: each sentence that names an edge, by its own words. */
public final class CatalogueEdgesTest {
    private static final String TEXT = "reader;reader;book 50 of 0;book 30 of 1;book 45;book 20;book 7;";
    /* Each READER has one long BOOK; on THE SHELF are a middle and a short one for each. */
    private static final String CHAINS = "reader;reader;reader;reader;book 90 of 0;book 91 of 1;book 92 of 2;book 93 of 3;"
            + "book 50;book 51;book 52;book 53;book 10;book 11;book 12;book 13;";

    public static void main(String[] args) {
        event();
        forget();
        orders();
        there();
        knot();
        hands();
        status();
        image();
        restore();
        manyCalls();
        Checks.end();
    }

    private static void event() {
        Checks.sentence("A CATALOGUE of EVENTS (at most 8)", () -> {
            StoutShelf x = Checks.told(TEXT);
            for (int i = 1; i <= 8; i++) {
                Checks.due("event " + i, x.event(0, 0, 2), i);
            }
            Checks.due("one more", x.event(0, 0, 2), -1);
            Checks.due("events", x.count(4), 8);
            Checks.due("status 2", x.count(8), 1);
            Checks.due("forget", x.forget(), 7);
            Checks.due("room again", x.event(0, 0, 3), 8);
        });
        Checks.sentence("NONE (STATUS 2): there are 8, no such READER, BOOK, both are one.", () -> {
            StoutShelf x = Checks.told(TEXT);
            int[][] wrong = {{2, 0, 1}, {-1, 0, 1}, {5, 0, 1}, {Integer.MAX_VALUE, 0, 1}, {Integer.MIN_VALUE, 0, 1},
                {0, 5, 1}, {0, -1, 1}, {0, 12, 1}, {0, Integer.MAX_VALUE, 1}, {0, Integer.MIN_VALUE, 1},
                {0, 0, 5}, {0, 0, -1}, {0, 0, 12}, {0, 0, Integer.MAX_VALUE}, {0, 0, Integer.MIN_VALUE},
                {0, 0, 0}, {1, 4, 4}, {0, -1, -1}, {0, 5, 5}};
            for (int i = 0; i < wrong.length; i++) {
                int[] w = wrong[i];
                Checks.due("event(" + w[0] + ", " + w[1] + ", " + w[2] + ")", x.event(w[0], w[1], w[2]), -1);
                Checks.due("status 2", x.count(8), i + 1);
                Checks.due("events", x.count(4), 0);
            }
            Checks.due("status 1", x.count(7), 0);
        });
        Checks.sentence("An EVENT is told: how many there are.", () -> {
            StoutShelf x = Checks.told(TEXT);
            Checks.due("one that can't be made", x.event(1, 0, 1), 1);
            Checks.due("the last reader, books", x.event(1, 4, 3), 2);
            Checks.due("no move is made", x.count(3), 0);
            Checks.due("who has what stays", x.book(0, 5), 0);
        });
    }

    private static void forget() {
        Checks.sentence("The last EVENT is taken back: how many are left. NONE: there are none.", () -> {
            StoutShelf x = Checks.told(TEXT);
            Checks.due("none", x.forget(), -1);
            x.event(0, 0, 2);
            x.event(0, 0, 3);
            Checks.due("both leave one book", x.orders(), 0);
            Checks.due("the last", x.forget(), 1);
            Checks.due("the first is left", x.orders(), 1);
            Checks.due("the shelf behind it", x.there(2, 1), 0);
            Checks.due("the only one", x.forget(), 0);
            Checks.due("none", x.forget(), -1);
            Checks.due("it is no refused event", x.count(8), 0);
        });
    }

    /* EVENTS 0 to 3 the long BOOKS for the middle ones, 4 to 7 these for the short ones. */
    private static StoutShelf chains() {
        StoutShelf x = Checks.told(CHAINS);
        for (int r = 0; r < 4; r++) {
            x.event(r, r, 4 + r);
        }
        for (int r = 0; r < 4; r++) {
            x.event(r, 4 + r, 8 + r);
        }
        return x;
    }

    private static void orders() {
        Checks.sentence("ORDERS: how many rows of all EVENTS are so that each can be made", () -> {
            StoutShelf x = Checks.told(TEXT);
            Checks.due("of none", x.orders(), 1);
            x.event(0, 0, 2);
            Checks.due("of one", x.orders(), 1);
            x.event(1, 1, 3);
            Checks.due("of two", x.orders(), 2);
            x.event(0, 2, 4);
            Checks.due("of three", x.orders(), 3);
            x.event(1, 0, 4);
            Checks.due("with one that can't be", x.orders(), 0);
            // 8! by 2 for each of four chains
            Checks.due("of eight", chains().orders(), 2520);
            StoutShelf y = Checks.told(TEXT);
            y.event(0, 0, 2);
            y.event(0, 0, 2);
            Checks.due("the same twice", y.orders(), 0);
            StoutShelf z = Checks.told("reader;book 5 of 0;book 5;");
            z.event(0, 0, 1);
            Checks.due("as many pages", z.orders(), 0);
            // Behind the first three the first could be made once more: each is made once.
            StoutShelf w = Checks.told("reader;reader;book 50 of 0;book 40 of 0;book 30;book 20;book 60 of 1;book 10;");
            w.event(0, 1, 2);
            w.event(0, 0, 1);
            w.event(0, 2, 3);
            w.event(1, 4, 5);
            Checks.due("each once", w.orders(), 8);
            Checks.due("each once", w.there(5, 3), 2);
        });
        Checks.sentence("from the LIBRARY as it is now on", () -> {
            StoutShelf x = Checks.told(TEXT);
            x.event(0, 2, 4);
            Checks.due("not now", x.orders(), 0);
            Checks.due("knot", x.knot(), 1);
            x.exchange(0, 0, 2);
            Checks.due("now", x.orders(), 1);
            Checks.due("knot", x.knot(), -1);
            Checks.due("there", x.there(0, 0), 1);
            x.undo();
            Checks.due("not again", x.orders(), 0);
        });
        Checks.sentence("`int orders()`: ORDERS.", () -> {
            StoutShelf x = Checks.told(TEXT);
            for (int i = 0; i < 200; i++) {
                x.swap(0, i % 2, 1, 1 - i % 2);
            }
            x.event(0, 0, 2);
            Checks.due("though no move can be written down", x.orders(), 1);
        });
    }

    private static void there() {
        Checks.sentence("THERE: in how many of these a BOOK is on THE SHELF behind so many EVENTS", () -> {
            StoutShelf x = chains();
            Checks.due("a long one behind 0", x.there(0, 0), 0);
            Checks.due("a long one behind 8", x.there(0, 8), 2520);
            Checks.due("a middle one behind 0", x.there(4, 0), 2520);
            // In 4 of 7 just one of its READER's two EVENTS is among the first four.
            Checks.due("a middle one behind 4", x.there(4, 4), 1080);
            Checks.due("a middle one behind 8", x.there(4, 8), 2520);
            Checks.due("a short one behind 0", x.there(11, 0), 2520);
            Checks.due("a short one behind 7", x.there(11, 7), 630);
            Checks.due("a short one behind 8", x.there(11, 8), 0);
            StoutShelf y = Checks.told(TEXT);
            Checks.due("of no events, on the shelf", y.there(2, 0), 1);
            Checks.due("of no events, a reader's", y.there(0, 0), 0);
            y.event(1, 3, 0);
            Checks.due("without orders", y.there(2, 0), 0);
            Checks.due("without orders", y.there(2, 1), 0);
        });
        Checks.sentence("IllegalArgumentException (behind NoSuchElementException): many is not 0 to as many EVENTS as there are.",
            () -> {
                StoutShelf x = Checks.told(TEXT);
                Checks.dueThrow("there(2, 1)", Checks.ILLEGAL, () -> x.there(2, 1));
                x.event(0, 0, 2);
                Checks.due("there(2, 1)", x.there(2, 1), 0);
                for (int many : new int[] {-1, 2, 8, Integer.MAX_VALUE, Integer.MIN_VALUE}) {
                    Checks.dueThrow("there(2, " + many + ")", Checks.ILLEGAL, () -> x.there(2, many));
                    Checks.dueThrow("there(5, " + many + ")", Checks.NO_SUCH, () -> x.there(5, many));
                    Checks.dueThrow("there(-1, " + many + ")", Checks.NO_SUCH, () -> x.there(-1, many));
                }
                StoutShelf y = chains();
                Checks.due("there(4, 8)", y.there(4, 8), 2520);
                Checks.dueThrow("there(4, 9)", Checks.ILLEGAL, () -> y.there(4, 9));
            });
    }

    /* EVENTS that can all be made now, each alone, hinder one another only in twos: a KNOT has one or two. */
    private static void knot() {
        Checks.sentence("the smallest set of EVENTS that have no such ORDER by themselves (all others left out)", () -> {
            StoutShelf x = Checks.told(TEXT);
            x.event(0, 0, 2);
            x.event(1, 1, 3);
            x.event(0, 0, 4);
            Checks.due("two that leave one book", x.knot(), 1 + 4);
            x.event(1, 2, 3);
            Checks.due("one alone, though it could follow others", x.knot(), 8);
            Checks.due("the chains' second ones by themselves", chains().knot(), 16);
            StoutShelf y = Checks.told("reader;reader;book 9 of 0;book 8 of 1;book 7;book 6;");
            y.event(0, 0, 2);
            y.event(1, 1, 2);
            Checks.due("two that take one book", y.knot(), 3);
            StoutShelf z = Checks.told(CHAINS);
            for (int i = 0; i < 7; i++) {
                z.event(i % 4, i % 4, 4 + i);
            }
            z.event(0, 1, 2);
            Checks.due("the last alone", z.knot(), 128);
        });
        Checks.sentence("KNOT, as bits; NONE: none.", () -> {
            StoutShelf x = Checks.told(TEXT);
            Checks.due("of no events", x.knot(), -1);
            x.event(0, 0, 2);
            Checks.due("of one that can be made", x.knot(), -1);
            x.event(1, 0, 2);
            Checks.due("of one that can't", x.knot(), 2);
            x.forget();
            Checks.due("taken back", x.knot(), -1);
            Checks.due("nothing is made", x.count(3), 0);
        });
        Checks.sentence("of as small the least as bits; none, if all have", () -> {
            StoutShelf x = Checks.told(TEXT);
            Checks.due("of none", x.knot(), -1);
            x.event(0, 0, 2);
            x.event(1, 1, 3);
            Checks.due("all have", x.knot(), -1);
            x.event(0, 0, 4);
            x.event(1, 1, 4);
            Checks.due("of 5, 10 and 12", x.knot(), 5);
            StoutShelf y = Checks.told(TEXT);
            y.event(0, 0, 2);
            y.event(1, 1, 3);
            y.event(1, 1, 4);
            y.event(0, 0, 4);
            Checks.due("of 6, 9 and 12", y.knot(), 6);
            y.event(0, 1, 4);
            y.event(0, 3, 4);
            Checks.due("of two alone", y.knot(), 16);
        });
    }

    private static void handsDue(StoutShelf x, int book, int... want) {
        Checks.due("hands(" + book + ", -1)", x.hands(book, -1), want.length);
        for (int i = 0; i < want.length; i++) {
            Checks.due("hands(" + book + ", " + i + ")", x.hands(book, i), want[i]);
        }
        Checks.dueThrow("one more", Checks.NO_SUCH, () -> x.hands(book, want.length));
    }

    private static void hands() {
        Checks.sentence("from the first time on (as the TEXT told) through all MOVES that were made and not UNDONE", () -> {
            StoutShelf x = Checks.told(TEXT);
            handsDue(x, 0, 0);
            handsDue(x, 2, -1);
            x.exchange(0, 0, 2);
            x.swap(1, 1, 0, 2);
            x.exchange(1, 2, 3);
            handsDue(x, 0, 0, -1);
            handsDue(x, 1, 1, 0);
            handsDue(x, 2, -1, 0, 1, -1);
            handsDue(x, 3, -1, 1);
            handsDue(x, 4, -1);
            x.undo();
            handsDue(x, 2, -1, 0, 1);
            handsDue(x, 3, -1);
            x.exchange(0, 0, 2);
            handsDue(x, 0, 0, -1);
        });
        Checks.sentence("each change once", () -> {
            StoutShelf x = Checks.told(TEXT);
            x.exchange(0, 0, 3);
            x.exchange(1, 1, 4);
            handsDue(x, 0, 0, -1);
            handsDue(x, 2, -1);
            x.swap(0, 3, 1, 4);
            x.swap(0, 4, 1, 3);
            handsDue(x, 3, -1, 0, 1, 0);
            handsDue(x, 4, -1, 1, 0, 1);
            handsDue(x, 0, 0, -1);
        });
        Checks.sentence("HANDS: how many (i NONE); the i-th (NONE: THE SHELF). NoSuchElementException: also there is none.", () -> {
            StoutShelf x = Checks.told(TEXT);
            for (int i = 0; i < 200; i++) {
                x.swap(0, i % 2, 1, 1 - i % 2);
            }
            Checks.due("how many", x.hands(0, -1), 201);
            Checks.due("how many of one that stayed", x.hands(2, -1), 1);
            Checks.due("the first", x.hands(0, 0), 0);
            Checks.due("the second", x.hands(0, 1), 1);
            Checks.due("the last but one", x.hands(0, 199), 1);
            Checks.due("the last", x.hands(0, 200), 0);
            for (int i : new int[] {201, -2, Integer.MAX_VALUE, Integer.MIN_VALUE}) {
                Checks.dueThrow("hands(0, " + i + ")", Checks.NO_SUCH, () -> x.hands(0, i));
            }
            Checks.dueThrow("hands(2, 1)", Checks.NO_SUCH, () -> x.hands(2, 1));
        });
    }

    private static void status() {
        Checks.sentence("how many calls were refused: 0 of TEXTS with a FAULT, 1 MOVES, 2 EVENTS", () -> {
            StoutShelf x = Checks.told(TEXT);
            x.judge(9, 9, 9);
            x.undo();
            x.forget();
            x.restore();
            Checks.feed(x, TEXT);
            Checks.dueThrow("library", Checks.ILLEGAL, () -> x.library(701));
            statusDue(x, 0, 0, 0);
            Checks.due("a fault", x.library(5), 1);
            statusDue(x, 1, 0, 0);
            x.exchange(0, 0, 1);
            x.swap(0, 0, 0, 1);
            statusDue(x, 1, 2, 0);
            x.event(0, 0, 0);
            x.event(0, 0, 9);
            x.event(9, 0, 1);
            statusDue(x, 1, 2, 3);
            x.image();
            x.exchange(9, 9, 9);
            x.event(9, 9, 9);
            Checks.due("restore", x.restore() ? 1 : 0, 1);
            statusDue(x, 1, 3, 4);
            Checks.due("library", Checks.tell(x, TEXT), 0);
            statusDue(x, 1, 3, 4);
            Checks.due("exchange", x.exchange(0, 0, 2), 0);
            Checks.due("event", x.event(0, 2, 3), 1);
            statusDue(x, 1, 3, 4);
        });
    }

    private static void statusDue(StoutShelf x, int texts, int moves, int events) {
        Checks.due("status 0", x.count(6), texts);
        Checks.due("status 1", x.count(7), moves);
        Checks.due("status 2", x.count(8), events);
    }

    private static void image() {
        Checks.sentence("Who has what, MOVES and EVENTS are kept as an image, in place of another one.", () -> {
            StoutShelf x = Checks.told(TEXT);
            x.image();
            x.exchange(0, 0, 2);
            x.event(0, 2, 3);
            x.image();
            x.exchange(0, 2, 3);
            x.swap(0, 3, 1, 1);
            x.event(1, 3, 4);
            Checks.due("restore", x.restore() ? 1 : 0, 1);
            Checks.due("moves", x.count(3), 1);
            Checks.due("events", x.count(4), 1);
            Checks.due("orders", x.orders(), 1);
            Checks.due("0 has", x.reader(0, 1), 4);
            Checks.due("1 has", x.reader(1, 1), 2);
            handsDue(x, 3, -1);
            Checks.due("undo", x.undo(), 0);
            Checks.due("0 has", x.reader(0, 1), 1);
        });
        Checks.sentence("Who has what, MOVES and EVENTS are kept as an image", () -> {
            StoutShelf x = Checks.told(TEXT);
            for (int i = 0; i < 200; i++) {
                x.swap(0, i % 2, 1, 1 - i % 2);
            }
            for (int i = 0; i < 8; i++) {
                x.event(0, 0, 2);
            }
            x.image();
            x.undo();
            x.forget();
            x.exchange(0, 1, 3);
            x.event(1, 0, 3);
            Checks.due("restore", x.restore() ? 1 : 0, 1);
            Checks.due("moves", x.count(3), 200);
            Checks.due("the last", x.move(199, 3), 1);
            Checks.due("full", x.swap(0, 0, 1, 1), 5);
            Checks.due("events", x.count(4), 8);
            Checks.due("full", x.event(0, 0, 2), -1);
            Checks.due("two of the same", x.knot(), 3);
        });
    }

    private static void restore() {
        Checks.sentence("They are as the image again: true. False: there is none.", () -> {
            StoutShelf x = new StoutShelf();
            Checks.due("of a new object", x.restore() ? 1 : 0, 0);
            x.image();
            Checks.due("an empty image", x.restore() ? 1 : 0, 1);
            Checks.due("library", Checks.tell(x, TEXT), 0);
            Checks.due("it is gone", x.restore() ? 1 : 0, 0);
            x.exchange(0, 0, 2);
            x.event(0, 2, 3);
            Checks.due("none", x.restore() ? 1 : 0, 0);
            Checks.due("moves stay", x.count(3), 1);
            Checks.due("events stay", x.count(4), 1);
            x.image();
            Checks.due("fault", Checks.tell(x, "foo"), 1);
            Checks.due("nothing changed yet", x.restore() ? 1 : 0, 1);
            Checks.due("moves", x.count(3), 1);
            x.undo();
            x.forget();
            Checks.due("restore", x.restore() ? 1 : 0, 1);
            Checks.due("moves", x.count(3), 1);
            Checks.due("events", x.count(4), 1);
            x.undo();
            Checks.due("it is still there", x.restore() ? 1 : 0, 1);
            Checks.due("moves", x.count(3), 1);
            Checks.due("book 2", x.book(2, 5), 0);
        });
        Checks.sentence("They are as the image again", () -> {
            StoutShelf x = Checks.told(TEXT + "wants 0 2;");
            x.image();
            Checks.feed(x, "reader;");
            Checks.due("week", x.week(), 1);
            Checks.due("restore", x.restore() ? 1 : 0, 1);
            Checks.due("the row stays", x.row(-1, 0), 1);
            Checks.due("the tape stays", x.count(5), 20);
        });
    }

    private static void manyCalls() {
        Checks.sentence("An object is used for at most 512 calls after it has been made", () -> {
            StoutShelf x = new StoutShelf();
            for (int i = 0; i < 510; i++) {
                Checks.due("exchange " + i, x.exchange(0, 0, 0), 1);
            }
            Checks.due("status 1", x.count(7), 510);
            Checks.dueThrow("the last call", Checks.ILLEGAL, () -> x.library(1));
        });
    }
}
