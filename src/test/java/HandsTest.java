/** Promises 27 to 29: hands, image, restore. */
public final class HandsTest {
    private static final String TEXT = "reader;reader;book 50 of 0;book 30 of 1;book 45;book 20;book 7;";

    public static void main(String[] args) {
        hands();
        images();
        Checks.end();
    }

    private static void handsDue(StoutShelf x, int book, int... want) {
        Checks.due("hands of " + book, x.hands(book, -1), want.length);
        for (int i = 0; i < want.length; i++) {
            Checks.due("hand " + i + " of " + book, x.hands(book, i), want[i]);
        }
        Checks.dueThrow("a hand too many", Checks.NO_SUCH, () -> x.hands(book, want.length));
    }

    private static void hands() {
        StoutShelf x = Checks.told(TEXT);
        handsDue(x, 0, 0);
        handsDue(x, 2, -1);
        Checks.due("exchange", x.exchange(0, 0, 2), 0);
        Checks.due("swap", x.swap(1, 1, 0, 2), 0);
        Checks.due("exchange", x.exchange(1, 2, 3), 0);
        handsDue(x, 0, 0, -1);
        handsDue(x, 1, 1, 0);
        handsDue(x, 2, -1, 0, 1, -1);
        handsDue(x, 3, -1, 1);
        handsDue(x, 4, -1);
        Checks.due("undo", x.undo(), 2);
        handsDue(x, 2, -1, 0, 1);
        handsDue(x, 3, -1);
        Checks.due("refused", x.exchange(0, 0, 2), 2);
        handsDue(x, 2, -1, 0, 1);
        Checks.dueThrow("hands(5, -1)", Checks.NO_SUCH, () -> x.hands(5, -1));
        Checks.dueThrow("hands(-1, -1)", Checks.NO_SUCH, () -> x.hands(-1, -1));
        Checks.dueThrow("hands(0, -2)", Checks.NO_SUCH, () -> x.hands(0, -2));
        Checks.dueThrow("hands(0, 99)", Checks.NO_SUCH, () -> x.hands(0, 99));
    }

    private static void images() {
        StoutShelf x = Checks.told(TEXT);
        Checks.due("none", x.restore() ? 1 : 0, 0);
        x.exchange(0, 0, 2);
        x.event(0, 2, 4);
        x.image();
        x.exchange(0, 2, 3);
        x.swap(0, 3, 1, 1);
        x.exchange(0, 0, 0);
        x.event(1, 1, 4);
        x.event(1, 1, 1);
        Checks.due("week", x.week(), 0);
        Checks.due("restore", x.restore() ? 1 : 0, 1);
        Checks.due("moves", x.count(3), 1);
        Checks.due("events", x.count(4), 1);
        Checks.due("orders", x.orders(), 1);
        Checks.due("status 1 stays", x.count(7), 1);
        Checks.due("status 2 stays", x.count(8), 1);
        Checks.due("row stays", x.row(-1, 0), 0);
        handsDue(x, 2, -1, 0);
        Checks.due("undo", x.undo(), 0);
        Checks.due("forget", x.forget(), 0);
        Checks.due("book 2", x.book(2, 5), -1);
        Checks.due("restore again", x.restore() ? 1 : 0, 1);
        Checks.due("book 2", x.book(2, 5), 0);
        Checks.due("move", x.move(0, 2), 2);
        x.undo();
        x.image();
        x.exchange(0, 0, 3);
        Checks.due("the later image", x.restore() ? 1 : 0, 1);
        Checks.due("moves", x.count(3), 0);
        Checks.due("book 0", x.book(0, 5), 0);
    }
}
