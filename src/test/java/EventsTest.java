/** Promises 22 to 26: event, forget, orders, there, knot. */
public final class EventsTest {
    private static final String TEXT = "reader;reader;book 50 of 0;book 30 of 1;book 45;book 20;book 7;";

    public static void main(String[] args) {
        telling();
        ordering();
        fromNowOn();
        knots();
        Checks.end();
    }

    private static void telling() {
        StoutShelf x = Checks.told(TEXT);
        Checks.due("no such reader", x.event(2, 0, 1), -1);
        Checks.due("no such reader", x.event(-1, 0, 1), -1);
        Checks.due("no such book", x.event(0, 5, 1), -1);
        Checks.due("no such book", x.event(0, 0, -1), -1);
        Checks.due("both are one", x.event(0, 0, 0), -1);
        Checks.due("status 2", x.count(8), 5);
        for (int i = 1; i <= 8; i++) {
            Checks.due("event " + i, x.event(1, 0, 1), i);
        }
        Checks.due("a ninth", x.event(0, 0, 2), -1);
        Checks.due("status 2", x.count(8), 6);
        Checks.due("events", x.count(4), 8);
        for (int i = 7; i >= 0; i--) {
            Checks.due("forget", x.forget(), i);
        }
        Checks.due("forget", x.forget(), -1);
        Checks.due("status stays", x.count(8), 6);
        Checks.due("no moves", x.count(3), 0);
    }

    private static void ordering() {
        StoutShelf x = Checks.told(TEXT);
        Checks.due("none", x.orders(), 1);
        Checks.due("there of none", x.there(2, 0), 1);
        Checks.due("there of none", x.there(0, 0), 0);
        x.event(0, 0, 2);
        x.event(1, 1, 3);
        x.event(0, 2, 4);
        Checks.due("orders", x.orders(), 3);
        Checks.due("there(2, 0)", x.there(2, 0), 3);
        Checks.due("there(2, 1)", x.there(2, 1), 1);
        Checks.due("there(2, 2)", x.there(2, 2), 1);
        Checks.due("there(2, 3)", x.there(2, 3), 3);
        Checks.due("there(1, 1)", x.there(1, 1), 1);
        Checks.due("there(1, 2)", x.there(1, 2), 2);
        Checks.due("there(1, 3)", x.there(1, 3), 3);
        Checks.dueThrow("there(2, 4)", Checks.ILLEGAL, () -> x.there(2, 4));
        Checks.dueThrow("there(2, -1)", Checks.ILLEGAL, () -> x.there(2, -1));
        Checks.dueThrow("there(5, 9)", Checks.NO_SUCH, () -> x.there(5, 9));
        Checks.dueThrow("there(-1, 0)", Checks.NO_SUCH, () -> x.there(-1, 0));
        x.event(1, 3, 0);
        Checks.due("one that can't be", x.orders(), 0);
        Checks.due("there without orders", x.there(2, 0), 0);
    }

    private static void fromNowOn() {
        StoutShelf x = Checks.told(TEXT);
        x.event(0, 2, 4);
        Checks.due("not now", x.orders(), 0);
        Checks.due("exchange", x.exchange(0, 0, 2), 0);
        Checks.due("now", x.orders(), 1);
        Checks.due("undo", x.undo(), 0);
        Checks.due("not again", x.orders(), 0);
    }

    private static void knots() {
        StoutShelf x = Checks.told(TEXT);
        x.event(0, 0, 2);
        x.event(1, 1, 3);
        Checks.due("none", x.knot(), -1);
        x.event(0, 0, 4);
        Checks.due("two that leave one book", x.knot(), 1 + 4);
        x.event(1, 1, 4);
        Checks.due("the least as bits", x.knot(), 1 + 4);
        x.event(1, 2, 4);
        Checks.due("one alone", x.knot(), 16);
        x.event(1, 1, 0);
        Checks.due("of two alone the least", x.knot(), 16);
        StoutShelf y = Checks.told("reader;reader;book 9 of 0;book 8 of 1;book 7;book 6;");
        y.event(0, 0, 2);
        y.event(1, 1, 2);
        Checks.due("two that take one book", y.knot(), 3);
    }
}
