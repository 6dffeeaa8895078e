/** Promises 16 and 17: week, row. */
public final class WeekTest {
    public static void main(String[] args) {
        chain();
        empty();
        first();
        spent();
        edges();
        Checks.end();
    }

    private static void rowDue(StoutShelf x, int i, int reader, int left, int taken) {
        Checks.due("reader of " + i, x.row(i, 0), reader);
        Checks.due("left of " + i, x.row(i, 1), left);
        Checks.due("taken of " + i, x.row(i, 2), taken);
    }

    /* READER 0 can be SERVED only behind READER 1, who leaves what he wants. */
    private static void chain() {
        StoutShelf x = Checks.told("reader;reader;book 40 of 0;book 30 of 1;book 20;wants 0 1;wants 1 2;");
        Checks.due("week", x.week(), 2);
        Checks.due("row", x.row(-1, 77), 2);
        rowDue(x, 0, 1, 1, 2);
        rowDue(x, 1, 0, 0, 1);
        Checks.dueThrow("row(2, 0)", Checks.NO_SUCH, () -> x.row(2, 0));
        Checks.dueThrow("row(-2, 0)", Checks.NO_SUCH, () -> x.row(-2, 0));
        Checks.dueThrow("row(0, 3)", Checks.NO_SUCH, () -> x.row(0, 3));
        Checks.dueThrow("row(0, -1)", Checks.NO_SUCH, () -> x.row(0, -1));
        Checks.due("nothing was moved", x.count(3), 0);
        Checks.due("nothing was moved", x.reader(0, 1), 1);
        Checks.due("exchange", x.exchange(1, 1, 2), 0);
        Checks.due("the row stays", x.row(-1, 0), 2);
        Checks.due("week", x.week(), 2);
        Checks.due("a new row", x.row(-1, 0), 1);
        rowDue(x, 0, 0, 0, 1);
    }

    private static void empty() {
        StoutShelf x = Checks.told("reader;reader;book 40 of 0;book 30 of 1;book 20;wants 0 0;");
        Checks.dueThrow("none is kept", Checks.NO_SUCH, () -> x.row(-1, 0));
        Checks.due("served as it is", x.week(), 1);
        Checks.due("the empty row", x.row(-1, 0), 0);
        Checks.dueThrow("row(0, 0)", Checks.NO_SUCH, () -> x.row(0, 0));
    }

    /* READER 0's EXCHANGE serves nobody, but his rows are tried first. */
    private static void first() {
        StoutShelf x = Checks.told("reader;reader;book 40 of 0;book 30 of 1;book 10;book 20;wants 1 3;");
        Checks.due("week", x.week(), 1);
        Checks.due("row", x.row(-1, 0), 2);
        rowDue(x, 0, 0, 0, 2);
        rowDue(x, 1, 1, 1, 3);
    }

    private static void spent() {
        StringBuilder text = new StringBuilder("reader;reader;reader;reader;reader;");
        for (int reader = 0; reader < 5; reader++) {
            text.append("book 9").append(reader).append(" of ").append(reader).append(";");
        }
        for (int i = 1; i <= 7; i++) {
            text.append("book ").append(i).append(";");
        }
        text.append("wants 0 5;");
        StoutShelf x = Checks.told(text.toString());
        Checks.due("spent", x.week(), -2);
        Checks.dueThrow("none is kept", Checks.NO_SUCH, () -> x.row(-1, 0));
    }

    /* These were found by counting: just 20,000 TRIES, and one more. */
    private static void edges() {
        StoutShelf x = Checks.told(Checks.library(5, new int[] {7, 11, 8, 2, 8, 8, 3, 3, 1, 11, 2},
                new int[] {-1, 2, 2, -1, -1, 0, -1, 4, -1, 1, 3}) + "wants 4 8;");
        Checks.due("20,000 tries", x.week(), 1);
        StoutShelf y = Checks.told(Checks.library(5, new int[] {8, 8, 3, 7, 5, 12, 8, 4, 8, 1, 13},
                new int[] {0, 2, 1, 4, -1, 3, -1, -1, -1, -1, 0}) + "wants 3 8;");
        Checks.due("20,001 tries", y.week(), -2);
        Checks.due("an exchange, so that there is less to try", y.exchange(3, 5, 9), 0);
        Checks.due("a week", y.week(), 0);
        Checks.due("its row", y.row(-1, 0), 0);
        Checks.due("back", y.undo(), 0);
        Checks.due("20,001 tries", y.week(), -2);
        Checks.due("what is kept stays", y.row(-1, 0), 0);
    }
}
