/** Promises 1 to 7: each sentence that names an edge, by its own words. */
public final class LibraryEdgesTest {
    private static final int BLANKS = 0x20202020;
    private static final String TEXT = "reader;reader;book 9 blanks 1 plates 2 torn 3 of 0;book 5;book 4 of 1;"
            + "wants 0 1;law leaves+1;";

    public static void main(String[] args) {
        newObject();
        feed();
        library();
        libraryWithFault();
        libraryRefused();
        fault();
        count();
        book();
        reader();
        Checks.end();
    }

    private static int feedBlanks(StoutShelf x) {
        return x.feed(BLANKS, BLANKS, BLANKS, BLANKS, BLANKS);
    }

    private static void newObject() {
        Checks.sentence("`StoutShelf()`: No BOOKS, no READERS.", () -> {
            StoutShelf x = new StoutShelf();
            for (int what = 0; what <= 8; what++) {
                Checks.due("count " + what, x.count(what), 0);
            }
            Checks.due("fault", x.fault(), -1);
            Checks.dueThrow("book", Checks.NO_SUCH, () -> x.book(0, 0));
            Checks.dueThrow("reader", Checks.NO_SUCH, () -> x.reader(0, 0));
            Checks.dueThrow("reach", Checks.NO_SUCH, () -> x.reach(0));
            Checks.dueThrow("way", Checks.NO_SUCH, () -> x.way(0, 0));
            Checks.dueThrow("together", Checks.NO_SUCH, () -> x.together(0, 0, 0));
            Checks.dueThrow("lost", Checks.NO_SUCH, () -> x.lost(0, 0));
            Checks.dueThrow("worth", Checks.NO_SUCH, () -> x.worth(0));
            Checks.dueThrow("bind", Checks.NO_SUCH, () -> x.bind(0, 0));
            Checks.dueThrow("there", Checks.NO_SUCH, () -> x.there(0, 0));
            Checks.dueThrow("hands", Checks.NO_SUCH, () -> x.hands(0, -1));
            Checks.dueThrow("row", Checks.NO_SUCH, () -> x.row(-1, 0));
            Checks.dueThrow("move", Checks.NO_SUCH, () -> x.move(0, 0));
            Checks.due("judge", x.judge(0, 0, 0), 1);
            Checks.due("fire", x.fire(0), 0);
            Checks.due("fire", x.fire(12), 0);
            Checks.due("orders", x.orders(), 1);
            Checks.due("knot", x.knot(), -1);
            Checks.due("week", x.week(), 0);
            Checks.due("its row", x.row(-1, 0), 0);
            Checks.due("restore", x.restore() ? 1 : 0, 0);
        });
        Checks.sentence("`NONE = -1`: There is none.", () -> Checks.due("NONE", StoutShelf.NONE, -1));
    }

    private static void feed() {
        Checks.sentence("of each number the highest first", () -> {
            StoutShelf x = new StoutShelf();
            // "book 1;book 2;book 3", then ";" and what is not read any more
            x.feed(0x626f6f6b, 0x20313b62, 0x6f6f6b20, 0x323b626f, 0x6f6b2033);
            x.feed(0x3bffffff, -1, Integer.MIN_VALUE, Integer.MAX_VALUE, 0);
            Checks.due("library", x.library(21), 0);
            for (int b = 0; b < 3; b++) {
                Checks.due("leaves of " + b, x.book(b, 0), b + 1);
            }
        });
        Checks.sentence("how many it has", () -> {
            StoutShelf x = new StoutShelf();
            for (int i = 1; i <= 35; i++) {
                Checks.due("feed " + i, feedBlanks(x), 20 * i);
            }
        });
        Checks.sentence("NONE, and none come, if it would have more than 700", () -> {
            StoutShelf x = new StoutShelf();
            for (int i = 1; i < 35; i++) {
                feedBlanks(x);
            }
            Checks.due("680", x.count(5), 680);
            Checks.due("700 is not more", feedBlanks(x), 700);
            Checks.due("720 is", x.feed(1, 2, 3, 4, 5), -1);
            Checks.due("none came", x.count(5), 700);
            Checks.due("still", feedBlanks(x), -1);
            Checks.due("what was there stays", x.library(700), 0);
            Checks.due("and there is room again", feedBlanks(x), 20);
        });
    }

    private static void library() {
        Checks.sentence("The tape's first n bytes (it is empty then) are a LIBRARY", () -> {
            StoutShelf x = new StoutShelf();
            Checks.feed(x, "book 7;book 8;foo");
            Checks.due("a part of the tape", x.library(14), 0);
            Checks.due("books", x.count(0), 2);
            Checks.due("the tape is empty", x.count(5), 0);
            Checks.dueThrow("what was behind is gone", Checks.ILLEGAL, () -> x.library(1));
            Checks.feed(x, "book 7;");
            Checks.due("all of the tape", x.library(20), 0);
            Checks.feed(x, "book 7;book 8;");
            Checks.due("nothing of the tape", x.library(0), 0);
            Checks.due("no books", x.count(0), 0);
            Checks.due("the tape is empty", x.count(5), 0);
            Checks.feed(x, "book 7;");
            Checks.due("with a fault", x.library(6), 1);
            Checks.due("the tape is empty", x.count(5), 0);
            Checks.due("fed anew", Checks.tell(x, "book 3;"), 0);
            Checks.due("leaves", x.book(0, 0), 3);
        });
        Checks.sentence("are a LIBRARY, all anew", () -> {
            StoutShelf x = Checks.told(TEXT);
            Checks.due("again", Checks.tell(x, "reader;book 5;"), 0);
            Checks.due("books", x.count(0), 1);
            Checks.due("readers", x.count(1), 1);
            Checks.due("wants", x.reader(0, 0), -1);
            Checks.due("has", x.reader(0, 1), 0);
            Checks.due("blanks", x.book(0, 1), 0);
            Checks.due("plates", x.book(0, 2), 0);
            Checks.due("torn", x.book(0, 3), 0);
            Checks.due("no law", x.book(0, 4), 5);
            Checks.due("whose", x.book(0, 5), -1);
            Checks.due("the shelf", x.count(2), 5);
            Checks.due("nothing at all", x.library(0), 0);
            Checks.due("books", x.count(0), 0);
            Checks.due("readers", x.count(1), 0);
            Checks.due("the shelf", x.count(2), 0);
        });
        Checks.sentence("`int library(int n) throws IllegalArgumentException`", () -> {
            StoutShelf x = new StoutShelf();
            for (int i = 1; i <= 5; i++) {
                String text = "book 1;law  " + i + "+1".repeat(343) + ";";
                Checks.due("as long as can be", text.length(), 700);
                Checks.due("library", Checks.tell(x, text), 0);
                Checks.due("pages by the latest law", x.book(0, 4), 343 + i);
            }
            Checks.due("without a law", Checks.tell(x, "book 7;"), 0);
            Checks.due("pages", x.book(0, 4), 7);
        });
        Checks.sentence("MOVES, EVENTS, the row of a WEEK that is kept, the image are gone (STATUS stays)", () -> {
            StoutShelf x = busy();
            Checks.due("the same again", Checks.tell(x, TEXT), 0);
            Checks.due("moves", x.count(3), 0);
            Checks.due("undo", x.undo(), -1);
            Checks.due("events", x.count(4), 0);
            Checks.due("forget", x.forget(), -1);
            Checks.dueThrow("row", Checks.NO_SUCH, () -> x.row(-1, 0));
            Checks.due("restore", x.restore() ? 1 : 0, 0);
            Checks.due("who has what", x.book(0, 5), 0);
            Checks.due("hands", x.hands(0, -1), 1);
            Checks.due("status 0", x.count(6), 1);
            Checks.due("status 1", x.count(7), 2);
            Checks.due("status 2", x.count(8), 3);
        });
    }

    /* One MOVE, one EVENT, a row, an image, and each STATUS another. */
    private static StoutShelf busy() {
        StoutShelf x = new StoutShelf();
        Checks.tell(x, "foo;");
        Checks.due("library", Checks.tell(x, TEXT), 0);
        Checks.due("exchange", x.exchange(0, 0, 1), 0);
        x.exchange(0, 0, 1);
        x.swap(0, 1, 0, 1);
        Checks.due("event", x.event(0, 1, 2), 1);
        x.event(0, 1, 1);
        x.event(2, 1, 2);
        x.event(0, 1, 3);
        Checks.due("week", x.week(), 1);
        x.image();
        return x;
    }

    private static void libraryWithFault() {
        Checks.sentence("0, or the FAULT (all stays)", () -> {
            String[] texts = {"reader;book 5;foo;", "reader;book 0;", "book 5;law pages;", "law 1;reader;law 2;"};
            StoutShelf x = busy();
            for (int i = 0; i < 4; i++) {
                Checks.due("fault", Checks.tell(x, texts[i]), i + 1);
                Checks.due("status 0", x.count(6), i + 2);
                Checks.due("books", x.count(0), 3);
                Checks.due("readers", x.count(1), 2);
                Checks.due("leaves", x.book(0, 0), 9);
                Checks.due("torn", x.book(0, 3), 3);
                Checks.due("pages", x.book(0, 4), 10);
                Checks.due("wants", x.reader(0, 0), 1);
                Checks.due("whose", x.book(1, 5), 0);
                Checks.due("move", x.move(0, 2), 1);
                Checks.due("events", x.count(4), 1);
                Checks.due("row", x.row(-1, 0), 0);
                Checks.due("status 1", x.count(7), 2);
                Checks.due("status 2", x.count(8), 3);
                Checks.due("undo", x.undo(), 0);
                Checks.due("image", x.restore() ? 1 : 0, 1);
                Checks.due("moves as the image", x.count(3), 1);
            }
            Checks.due("worth by the law that stays", x.worth(1), 0);
        });
    }

    private static void libraryRefused() {
        Checks.sentence("IllegalArgumentException: the tape has not so many, n below 0 (nothing changes).", () -> {
            StoutShelf x = busy();
            Checks.due("a fault ahead", Checks.tell(x, "reader foo;"), 1);
            Checks.feed(x, "book 7;");
            int[] wrong = {21, 22, 700, 701, Integer.MAX_VALUE, -1, -2, Integer.MIN_VALUE};
            for (int n : wrong) {
                Checks.dueThrow("library(" + n + ")", Checks.ILLEGAL, () -> x.library(n));
                Checks.due("tape", x.count(5), 20);
                Checks.due("status 0", x.count(6), 2);
                Checks.due("fault", x.fault(), 7);
            }
            Checks.due("books", x.count(0), 3);
            Checks.due("moves", x.count(3), 1);
            Checks.due("events", x.count(4), 1);
            Checks.due("row", x.row(-1, 0), 0);
            Checks.due("image", x.restore() ? 1 : 0, 1);
            Checks.due("as many as it has", x.library(20), 0);
        });
    }

    private static void fault() {
        Checks.sentence("The place of the latest library()'s FAULT; NONE without.", () -> {
            StoutShelf x = new StoutShelf();
            Checks.due("before any", x.fault(), -1);
            Checks.due("first byte", Checks.tell(x, "foo"), 1);
            Checks.due("place 0", x.fault(), 0);
            Checks.due("later", Checks.tell(x, "reader;book 0;"), 2);
            Checks.due("place 12", x.fault(), 12);
            Checks.due("good", Checks.tell(x, "reader;"), 0);
            Checks.due("without", x.fault(), -1);
            String long1 = "law " + " ".repeat(696);
            Checks.due("at the end", Checks.tell(x, long1), 1);
            Checks.due("place 700", x.fault(), 700);
            Checks.due("the empty one", x.library(0), 0);
            Checks.due("without", x.fault(), -1);
        });
    }

    private static void count() {
        Checks.sentence("0 BOOKS, 1 READERS, 2 PAGES of THE SHELF together", () -> {
            StoutShelf x = busy();
            Checks.feed(x, "reader;");
            int[] want = {3, 2, 10, 1, 1, 20, 1, 2, 3};
            for (int what = 0; what < 9; what++) {
                Checks.due("count(" + what + ")", x.count(what), want[what]);
            }
            Checks.due("an empty shelf", Checks.told("reader;book 5 of 0;").count(2), 0);
        });
        Checks.sentence("NoSuchElementException: another what. ## Promise 6", () -> {
            StoutShelf x = busy();
            for (int what : new int[] {-1, 9, 10, Integer.MAX_VALUE, Integer.MIN_VALUE}) {
                Checks.dueThrow("count(" + what + ")", Checks.NO_SUCH, () -> x.count(what));
            }
        });
    }

    private static void book() {
        Checks.sentence("5 whose it is (NONE: THE SHELF's)", () -> {
            StoutShelf x = Checks.told("reader;".repeat(5) + "book 5 of 4;book 6 of 0;book 4;");
            Checks.due("the last reader's", x.book(0, 5), 4);
            Checks.due("the first reader's", x.book(1, 5), 0);
            Checks.due("the shelf's", x.book(2, 5), -1);
            Checks.due("exchange", x.exchange(4, 0, 2), 0);
            Checks.due("left", x.book(0, 5), -1);
            Checks.due("taken", x.book(2, 5), 4);
        });
        Checks.sentence("NoSuchElementException: no such BOOK (as everywhere), what.", () -> {
            StoutShelf x = Checks.told("reader;book 5;book 6 of 0;");
            for (int b : new int[] {-1, 2, 11, 12, 32, Integer.MAX_VALUE, Integer.MIN_VALUE}) {
                for (int what = 0; what < 6; what++) {
                    int w = what;
                    Checks.dueThrow("book(" + b + ", " + w + ")", Checks.NO_SUCH, () -> x.book(b, w));
                }
                Checks.dueThrow("way", Checks.NO_SUCH, () -> x.way(0, b));
                Checks.dueThrow("lost", Checks.NO_SUCH, () -> x.lost(b, 0));
                Checks.dueThrow("worth", Checks.NO_SUCH, () -> x.worth(b));
                Checks.dueThrow("there", Checks.NO_SUCH, () -> x.there(b, 0));
                Checks.dueThrow("hands", Checks.NO_SUCH, () -> x.hands(b, -1));
            }
            for (int what : new int[] {-1, 6, 7, Integer.MAX_VALUE, Integer.MIN_VALUE}) {
                Checks.dueThrow("book(1, " + what + ")", Checks.NO_SUCH, () -> x.book(1, what));
            }
        });
    }

    private static void reader() {
        Checks.sentence("0 what he WANTS (NONE), 1 BOOKS that he has (bits), 2 whether he is SERVED now (1)", () -> {
            StoutShelf x = Checks.told("reader;reader;reader;" + "book 5;".repeat(10) + "book 6 of 1;book 7 of 1;"
                    + "wants 1 11;wants 2 0;");
            Checks.due("wants none", x.reader(0, 0), -1);
            Checks.due("wants the last", x.reader(1, 0), 11);
            Checks.due("wants the first", x.reader(2, 0), 0);
            Checks.due("has none", x.reader(0, 1), 0);
            Checks.due("has the last", x.reader(1, 1), 3 << 10);
            Checks.due("wants none", x.reader(0, 2), 0);
            Checks.due("has what he wants", x.reader(1, 2), 1);
            Checks.due("has it not", x.reader(2, 2), 0);
            Checks.due("exchange", x.exchange(1, 11, 0), 0);
            Checks.due("has it no more", x.reader(1, 2), 0);
            Checks.due("has", x.reader(1, 1), 1 | 1 << 10);
        });
        Checks.sentence("NoSuchElementException: no such READER (as everywhere), what.", () -> {
            StoutShelf x = Checks.told("reader;reader;book 5;book 6 of 0;");
            for (int r : new int[] {-1, 2, 4, 5, 6, Integer.MAX_VALUE, Integer.MIN_VALUE}) {
                for (int what = 0; what < 3; what++) {
                    int w = what;
                    Checks.dueThrow("reader(" + r + ", " + w + ")", Checks.NO_SUCH, () -> x.reader(r, w));
                }
                Checks.dueThrow("reach", Checks.NO_SUCH, () -> x.reach(r));
                Checks.dueThrow("way", Checks.NO_SUCH, () -> x.way(r, 0));
                Checks.dueThrow("together", Checks.NO_SUCH, () -> x.together(r, 0, 0));
                Checks.dueThrow("together", Checks.NO_SUCH, () -> x.together(0, r, 0));
                Checks.dueThrow("bind", Checks.NO_SUCH, () -> x.bind(r, 0));
            }
            for (int what : new int[] {-1, 3, 4, Integer.MAX_VALUE, Integer.MIN_VALUE}) {
                Checks.dueThrow("reader(1, " + what + ")", Checks.NO_SUCH, () -> x.reader(1, what));
            }
        });
    }
}
