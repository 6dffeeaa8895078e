/** Promises 7 to 12: reader, exchange, swap, judge, undo, move. */
public final class MovesTest {
    private static final String TEXT = "reader;reader;reader;book 50 of 0;book 30 of 1;book 40;book 30;"
            + "book 20 of 0;wants 0 2;wants 1 1;";

    public static void main(String[] args) {
        readers();
        troubles();
        exchanging();
        swapping();
        undoing();
        full();
        Checks.end();
    }

    private static void readers() {
        StoutShelf x = Checks.told(TEXT);
        Checks.due("wants", x.reader(0, 0), 2);
        Checks.due("wants nothing", x.reader(2, 0), -1);
        Checks.due("has", x.reader(0, 1), 17);
        Checks.due("has nothing", x.reader(2, 1), 0);
        Checks.due("not served", x.reader(0, 2), 0);
        Checks.due("served", x.reader(1, 2), 1);
        Checks.due("wants nothing, not served", x.reader(2, 2), 0);
        Checks.due("exchange", x.exchange(0, 0, 2), 0);
        Checks.due("served then", x.reader(0, 2), 1);
        Checks.due("has then", x.reader(0, 1), 20);
        Checks.dueThrow("reader(3, 0)", Checks.NO_SUCH, () -> x.reader(3, 0));
        Checks.dueThrow("reader(-1, 0)", Checks.NO_SUCH, () -> x.reader(-1, 0));
        Checks.dueThrow("reader(0, 3)", Checks.NO_SUCH, () -> x.reader(0, 3));
        Checks.dueThrow("reader(0, -1)", Checks.NO_SUCH, () -> x.reader(0, -1));
    }

    private static void exchangeDue(StoutShelf x, int reader, int left, int taken, int want) {
        String call = "(" + reader + ", " + left + ", " + taken + ")";
        int refused = x.count(7);
        int moves = x.count(3);
        Checks.due("judge" + call, x.judge(reader, left, taken), want);
        Checks.due("judge keeps the status", x.count(7), refused);
        Checks.due("exchange" + call, x.exchange(reader, left, taken), want);
        Checks.due("status 1", x.count(7), want == 0 ? refused : refused + 1);
        Checks.due("moves", x.count(3), want == 0 ? moves + 1 : moves);
    }

    private static void troubles() {
        StoutShelf x = Checks.told(TEXT);
        exchangeDue(x, 3, 0, 2, 1);
        exchangeDue(x, -1, 0, 2, 1);
        exchangeDue(x, 0, 5, 2, 1);
        exchangeDue(x, 0, 0, 5, 1);
        exchangeDue(x, 0, -1, 2, 1);
        exchangeDue(x, 0, 0, -1, 1);
        exchangeDue(x, Integer.MAX_VALUE, 0, 2, 1);
        exchangeDue(x, 0, 32, 2, 1);
        exchangeDue(x, 0, 1, 2, 2);
        exchangeDue(x, 0, 2, 3, 2);
        exchangeDue(x, 1, 0, 4, 2);
        exchangeDue(x, 0, 0, 1, 3);
        exchangeDue(x, 0, 0, 4, 3);
        exchangeDue(x, 0, 0, 0, 3);
        exchangeDue(x, 1, 1, 3, 4);
        exchangeDue(x, 1, 1, 2, 4);
        exchangeDue(x, 0, 4, 2, 4);
        exchangeDue(x, 0, 0, 2, 0);
        exchangeDue(x, 0, 0, 2, 2);
        exchangeDue(x, 0, 2, 0, 4);
    }

    private static void exchanging() {
        StoutShelf x = Checks.told(TEXT);
        Checks.due("exchange", x.exchange(0, 0, 3), 0);
        Checks.due("left", x.book(0, 5), -1);
        Checks.due("taken", x.book(3, 5), 0);
        Checks.due("shelf", x.count(2), 90);
        Checks.due("move 0", x.move(0, 0), 0);
        Checks.due("move 1", x.move(0, 1), 0);
        Checks.due("move 2", x.move(0, 2), 3);
        Checks.due("move 3", x.move(0, 3), -1);
        Checks.dueThrow("move(1, 0)", Checks.NO_SUCH, () -> x.move(1, 0));
        Checks.dueThrow("move(-1, 0)", Checks.NO_SUCH, () -> x.move(-1, 0));
        Checks.dueThrow("move(0, 4)", Checks.NO_SUCH, () -> x.move(0, 4));
        Checks.dueThrow("move(0, -1)", Checks.NO_SUCH, () -> x.move(0, -1));
    }

    private static void swapping() {
        StoutShelf x = Checks.told(TEXT);
        Checks.due("no such reader", x.swap(3, 0, 1, 1), 1);
        Checks.due("no such other", x.swap(0, 0, 3, 1), 1);
        Checks.due("no such given", x.swap(0, 5, 1, 1), 1);
        Checks.due("no such got", x.swap(0, 0, 1, -1), 1);
        Checks.due("with himself", x.swap(0, 0, 0, 4), 1);
        Checks.due("with himself what he hasn't", x.swap(0, 1, 0, 1), 1);
        Checks.due("hasn't given", x.swap(0, 1, 1, 0), 2);
        Checks.due("given is on the shelf", x.swap(0, 2, 1, 1), 2);
        Checks.due("other hasn't", x.swap(0, 0, 1, 2), 3);
        Checks.due("other has nothing", x.swap(0, 0, 2, 1), 3);
        Checks.due("got is his own", x.swap(0, 0, 1, 4), 3);
        Checks.due("status", x.count(7), 11);
        Checks.due("no moves", x.count(3), 0);
        Checks.due("for a longer one", x.swap(1, 1, 0, 0), 0);
        Checks.due("given", x.book(1, 5), 0);
        Checks.due("got", x.book(0, 5), 1);
        Checks.due("shelf stays", x.count(2), 70);
        Checks.due("move 0", x.move(0, 0), 1);
        Checks.due("move 1", x.move(0, 1), 1);
        Checks.due("move 2", x.move(0, 2), 0);
        Checks.due("move 3", x.move(0, 3), 0);
    }

    private static void undoing() {
        StoutShelf x = Checks.told(TEXT);
        Checks.due("exchange", x.exchange(0, 0, 2), 0);
        Checks.due("swap", x.swap(0, 2, 1, 1), 0);
        Checks.due("exchange", x.exchange(1, 2, 3), 0);
        Checks.due("undo", x.undo(), 2);
        Checks.due("book 2", x.book(2, 5), 1);
        Checks.due("book 3", x.book(3, 5), -1);
        Checks.due("undo", x.undo(), 1);
        Checks.due("book 2", x.book(2, 5), 0);
        Checks.due("book 1", x.book(1, 5), 1);
        Checks.dueThrow("move(1, 0)", Checks.NO_SUCH, () -> x.move(1, 0));
        Checks.due("undo", x.undo(), 0);
        Checks.due("book 0", x.book(0, 5), 0);
        Checks.due("undo", x.undo(), -1);
        Checks.due("status stays", x.count(7), 0);
    }

    private static void full() {
        StoutShelf x = Checks.told(TEXT);
        for (int i = 0; i < 200; i++) {
            Checks.due("swap " + i, x.swap(0, i % 2, 1, 1 - i % 2), 0);
        }
        Checks.due("moves", x.count(3), 200);
        Checks.due("full", x.swap(0, 0, 1, 1), 5);
        Checks.due("full", x.exchange(0, 0, 2), 5);
        Checks.due("a lesser trouble", x.exchange(0, 0, 1), 3);
        Checks.due("a lesser trouble", x.swap(0, 1, 1, 1), 2);
        Checks.due("judge knows none of it", x.judge(0, 0, 2), 0);
        Checks.due("status", x.count(7), 4);
        Checks.due("hands", x.hands(0, -1), 201);
        Checks.due("hands(0, 199)", x.hands(0, 199), 1);
        Checks.due("hands(0, 200)", x.hands(0, 200), 0);
        Checks.dueThrow("hands(0, 201)", Checks.NO_SUCH, () -> x.hands(0, 201));
        Checks.due("undo", x.undo(), 199);
        Checks.due("room again", x.exchange(1, 0, 2), 0);
        Checks.due("move 199", x.move(199, 2), 2);
    }
}
