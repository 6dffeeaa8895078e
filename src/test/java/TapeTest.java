/** Promises 1 to 5: a new object, feed, library, fault, count. */
public final class TapeTest {
    public static void main(String[] args) {
        newObject();
        feeding();
        library();
        libraryForgets();
        faultKeepsAll();
        counting();
        Checks.end();
    }

    private static void newObject() {
        StoutShelf x = new StoutShelf();
        for (int what = 0; what <= 8; what++) {
            Checks.due("new count " + what, x.count(what), 0);
        }
        Checks.due("new fault", x.fault(), -1);
        Checks.due("new undo", x.undo(), -1);
        Checks.due("new forget", x.forget(), -1);
        Checks.due("new orders", x.orders(), 1);
        Checks.due("new knot", x.knot(), -1);
        Checks.due("new restore", x.restore() ? 1 : 0, 0);
        Checks.due("new fire", x.fire(12), 0);
        Checks.due("new exchange", x.exchange(0, 0, 0), 1);
        Checks.due("new swap", x.swap(0, 0, 1, 1), 1);
        Checks.due("new event", x.event(0, 0, 1), -1);
        Checks.dueThrow("new row", Checks.NO_SUCH, () -> x.row(-1, 0));
        Checks.dueThrow("new book", Checks.NO_SUCH, () -> x.book(0, 0));
        Checks.dueThrow("new reader", Checks.NO_SUCH, () -> x.reader(0, 0));
        Checks.dueThrow("new move", Checks.NO_SUCH, () -> x.move(0, 0));
        Checks.dueThrow("new hands", Checks.NO_SUCH, () -> x.hands(0, -1));
        Checks.due("new week", x.week(), 0);
        Checks.due("row of new week", x.row(-1, 0), 0);
    }

    private static void feeding() {
        StoutShelf x = new StoutShelf();
        for (int i = 1; i <= 35; i++) {
            Checks.due("feed " + i, x.feed(0x20202020, 0x20202020, 0x0a0a0a0a, 0x20202020, 0x20202020), 20 * i);
        }
        Checks.due("feed beyond 700", x.feed(1, 2, 3, 4, 5), -1);
        Checks.due("tape stays", x.count(5), 700);
        Checks.due("700 blanks", x.library(700), 0);
        Checks.due("tape is empty", x.count(5), 0);
        // "book", " 1;b", "ook ", "2;bo", "ok 3;" is too long: the last number holds "ok 3".
        Checks.due("order of bytes", x.feed(0x626f6f6b, 0x20313b62, 0x6f6f6b20, 0x323b626f, 0x6f6b2033), 20);
        Checks.due("row 2", x.feed(0x3b202020, 0, 0, 0, 0), 40);
        Checks.due("three books", x.library(21), 0);
        Checks.due("leaves 0", x.book(0, 0), 1);
        Checks.due("leaves 1", x.book(1, 0), 2);
        Checks.due("leaves 2", x.book(2, 0), 3);
    }

    private static void library() {
        StoutShelf x = new StoutShelf();
        Checks.dueThrow("library(-1)", Checks.ILLEGAL, () -> x.library(-1));
        Checks.dueThrow("library(1) of no tape", Checks.ILLEGAL, () -> x.library(1));
        Checks.feed(x, "book 7;");
        Checks.dueThrow("library(21) of 20", Checks.ILLEGAL, () -> x.library(21));
        Checks.due("tape stays", x.count(5), 20);
        Checks.due("no status", x.count(6), 0);
        Checks.due("library(20)", x.library(20), 0);
        Checks.due("books", x.count(0), 1);
        Checks.due("empty text", x.library(0), 0);
        Checks.due("no books", x.count(0), 0);
        Checks.feed(x, "book 7;book 8;foo");
        Checks.due("a text ends before the tape", x.library(14), 0);
        Checks.due("books", x.count(0), 2);
        Checks.due("tape", x.count(5), 0);
        Checks.due("blanks of both kinds", Checks.tell(x, " \n reader\n;book\n5of 0 ;  "), 0);
        Checks.due("whose", x.book(0, 5), 0);
    }

    private static void libraryForgets() {
        StoutShelf x = Checks.told("reader;reader;book 9 of 0;book 5;book 4 of 1;wants 0 1;");
        Checks.due("exchange", x.exchange(0, 0, 1), 0);
        Checks.due("refused exchange", x.exchange(0, 0, 1), 2);
        Checks.due("event", x.event(0, 1, 0), 1);
        Checks.due("refused event", x.event(0, 1, 1), -1);
        Checks.due("week", x.week(), 1);
        x.image();
        Checks.due("again", Checks.tell(x, "reader;book 5 of 0;book 6;"), 0);
        Checks.due("moves", x.count(3), 0);
        Checks.due("events", x.count(4), 0);
        Checks.due("status 0", x.count(6), 0);
        Checks.due("status 1 stays", x.count(7), 1);
        Checks.due("status 2 stays", x.count(8), 1);
        Checks.dueThrow("row is gone", Checks.NO_SUCH, () -> x.row(-1, 0));
        Checks.due("image is gone", x.restore() ? 1 : 0, 0);
        Checks.due("wants is gone", x.reader(0, 0), -1);
        Checks.due("readers", x.count(1), 1);
        Checks.due("hands anew", x.hands(0, -1), 1);
    }

    private static void faultKeepsAll() {
        StoutShelf x = Checks.told("reader;book 9 of 0;book 5;law leaves+1;");
        Checks.due("exchange", x.exchange(0, 0, 1), 0);
        Checks.due("event", x.event(0, 1, 0), 1);
        Checks.due("week", x.week(), 0);
        x.image();
        Checks.due("faulty", Checks.tell(x, "reader;reader;book 3;law 1;book 4 of 2;"), 3);
        Checks.due("fault", x.fault(), 37);
        Checks.due("tape", x.count(5), 0);
        Checks.due("books", x.count(0), 2);
        Checks.due("readers", x.count(1), 1);
        Checks.due("moves", x.count(3), 1);
        Checks.due("events", x.count(4), 1);
        Checks.due("pages", x.book(0, 4), 10);
        Checks.due("row", x.row(-1, 0), 0);
        Checks.due("image", x.restore() ? 1 : 0, 1);
        Checks.due("status", x.count(6), 1);
        Checks.dueThrow("library(5)", Checks.ILLEGAL, () -> x.library(5));
        Checks.due("fault stays", x.fault(), 37);
        Checks.due("good", Checks.tell(x, "book 1;"), 0);
        Checks.due("no fault", x.fault(), -1);
        Checks.due("status stays", x.count(6), 1);
    }

    private static void counting() {
        StoutShelf x = Checks.told("reader;book 9 of 0;book 5;book 6;law 0-9999*9999*leaves;");
        int page = -9999 * 9999;
        Checks.due("books", x.count(0), 3);
        Checks.due("readers", x.count(1), 1);
        Checks.due("pages wrap", x.count(2), page * 5 + page * 6);
        Checks.dueThrow("count(-1)", Checks.NO_SUCH, () -> x.count(-1));
        Checks.dueThrow("count(9)", Checks.NO_SUCH, () -> x.count(9));
    }
}
