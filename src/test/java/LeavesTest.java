/** Promises 18 to 21: lost, worth, bind, fire. */
public final class LeavesTest {
    public static void main(String[] args) {
        lost();
        worth();
        bind();
        fire();
        Checks.end();
    }

    private static void lostDue(StoutShelf x, int book, int leaves, int which) {
        Checks.due("lost(" + book + ", 0)", x.lost(book, 0), leaves);
        Checks.due("lost(" + book + ", 1)", x.lost(book, 1), which);
    }

    private static void lost() {
        StoutShelf x = Checks.told("reader;reader;book 10 of 0;book 12 of 1;book 11 blanks 1 of 1;book 20;book 12;book 5;"
                + "law leaves+blanks;");
        lostDue(x, 0, 0, -1);
        lostDue(x, 3, 9, 1);
        lostDue(x, 4, 1, 1);
        lostDue(x, 5, 0, -1);
        Checks.dueThrow("lost(6, 0)", Checks.NO_SUCH, () -> x.lost(6, 0));
        Checks.dueThrow("lost(-1, 0)", Checks.NO_SUCH, () -> x.lost(-1, 0));
        Checks.dueThrow("lost(0, 2)", Checks.NO_SUCH, () -> x.lost(0, 2));
        Checks.dueThrow("lost(0, -1)", Checks.NO_SUCH, () -> x.lost(0, -1));
        StoutShelf y = Checks.told("reader;book 1 of 0;book 99 blanks 1;book 99;law leaves+blanks;");
        lostDue(y, 1, -1, -1);
        lostDue(y, 2, 99, 0);
        StoutShelf z = Checks.told("reader;book 5;book 6;");
        lostDue(z, 0, -1, -1);
        StoutShelf w = Checks.told("reader;book 1 of 0;book 3;law if blanks=7 then 9 else leaves end;");
        lostDue(w, 1, 7, 0);
    }

    private static void worth() {
        StoutShelf x = Checks.told("reader;book 10 of 0;book 5 of 0;book 10;book 10;book 11;law leaves+blanks;");
        Checks.due("worth of the longest", x.worth(0), 2);
        Checks.due("worth of another", x.worth(1), 0);
        Checks.dueThrow("worth of the shelf's", Checks.ILLEGAL, () -> x.worth(2));
        Checks.dueThrow("worth(5)", Checks.NO_SUCH, () -> x.worth(5));
        Checks.dueThrow("worth(-1)", Checks.NO_SUCH, () -> x.worth(-1));
        StoutShelf y = Checks.told("reader;book 10 of 0;book 9;law leaves-2*blanks;");
        Checks.due("worth below 0", y.worth(0), -1);
    }

    private static void bind() {
        StoutShelf x = Checks.told("reader;reader;book 10 of 0;book 4 of 0;book 6 of 0;book 13;book 15;book 17;book 9 of 1;");
        Checks.due("bind 0", x.bind(0, 0), 2);
        Checks.due("bind 1", x.bind(0, 1), 2);
        Checks.due("of one with one", x.bind(1, 0), -1);
        Checks.due("of one with one", x.bind(1, 1), 0);
        Checks.dueThrow("bind(2, 0)", Checks.NO_SUCH, () -> x.bind(2, 0));
        Checks.dueThrow("bind(-1, 0)", Checks.NO_SUCH, () -> x.bind(-1, 0));
        Checks.dueThrow("bind(0, 2)", Checks.NO_SUCH, () -> x.bind(0, 2));
        Checks.dueThrow("bind(0, -1)", Checks.NO_SUCH, () -> x.bind(0, -1));
        StoutShelf y = Checks.told("reader;book 9 blanks 1 plates 2 torn 3 of 0;book 8;"
                + "book 7 blanks 4 plates 5 torn 6 of 0;book 39;book 50;"
                + "law if leaves=16 then if blanks=5 and plates=7 and torn=9 then 45 else 1 end else leaves end;");
        Checks.due("parts together", y.bind(0, 0), 2);
        Checks.due("parts together", y.bind(0, 1), 1);
        StoutShelf z = Checks.told("reader;book 9 of 0;book 8 of 0;book 7;book 6;law 0-leaves*leaves+15*leaves;");
        Checks.due("it may pay less than nothing", z.bind(0, 1), -1);
        StoutShelf w = Checks.told("reader;book 9 of 0;book 8 of 0;book 7;book 6;law if leaves<10 then leaves else 0 end;");
        Checks.due("less than nothing", w.bind(0, 1), -2);
        Checks.due("less than nothing", w.bind(0, 0), 1);
    }

    private static void fire() {
        StoutShelf x = Checks.told("reader;reader;reader;book 30 of 0;book 20 of 1;book 10 of 2;"
                + "book 40;book 25;book 15;book 5;book 4;");
        Checks.due("fire(0)", x.fire(0), 0);
        Checks.due("fire(1)", x.fire(1), 64);
        Checks.due("fire(2)", x.fire(2), 8 + 64);
        Checks.due("fire(3)", x.fire(3), 8 + 16 + 64);
        Checks.due("fire(5)", x.fire(5), 248);
        Checks.due("fire(6)", x.fire(6), 248);
        Checks.due("fire(12)", x.fire(12), 248);
        Checks.dueThrow("fire(-1)", Checks.ILLEGAL, () -> x.fire(-1));
        Checks.dueThrow("fire(13)", Checks.ILLEGAL, () -> x.fire(13));
        Checks.due("nothing changes", x.count(2), 89);
    }
}
