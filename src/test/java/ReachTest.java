/** Promises 13 to 15: reach, way, together. */
public final class ReachTest {
    public static void main(String[] args) {
        alone();
        together();
        spent();
        Checks.end();
    }

    private static void alone() {
        StoutShelf x = Checks.told("reader;reader;reader;book 30 of 0;book 10 of 0;book 20;book 30;book 5;book 25 of 1;");
        Checks.due("reach 0", x.reach(0), 1 + 2 + 4 + 16);
        Checks.due("reach 1", x.reach(1), 4 + 16 + 32);
        Checks.due("reach 2", x.reach(2), 0);
        Checks.due("way has", x.way(0, 1), 0);
        Checks.due("way 1", x.way(0, 2), 1);
        Checks.due("way to as long a one", x.way(0, 3), -1);
        Checks.due("way to another's", x.way(0, 5), -1);
        Checks.due("way of none", x.way(2, 4), -1);
        Checks.dueThrow("reach(3)", Checks.NO_SUCH, () -> x.reach(3));
        Checks.dueThrow("reach(-1)", Checks.NO_SUCH, () -> x.reach(-1));
        Checks.dueThrow("way(3, 0)", Checks.NO_SUCH, () -> x.way(3, 0));
        Checks.dueThrow("way(0, 6)", Checks.NO_SUCH, () -> x.way(0, 6));
        Checks.dueThrow("way(0, -1)", Checks.NO_SUCH, () -> x.way(0, -1));
        StoutShelf y = Checks.told("reader;book 1 of 0;book 2;law 0-leaves;");
        Checks.due("reach below 0", y.reach(0), 3);
    }

    private static void together() {
        StoutShelf x = Checks.told("reader;reader;reader;book 50 of 0;book 10 of 1;book 40;book 45;book 60 of 2;book 70;");
        Checks.due("has", x.together(1, 0, 1), 0);
        Checks.due("a swap", x.together(1, 0, 0), 1);
        Checks.due("a swap and an exchange", x.together(1, 0, 2), 2);
        Checks.due("alone", x.together(0, 1, 2), 1);
        Checks.due("a third one's", x.together(0, 1, 4), -1);
        Checks.due("too long", x.together(0, 1, 5), -1);
        Checks.due("nothing changes", x.count(3), 0);
        Checks.dueThrow("together(0, 0, 0)", Checks.ILLEGAL, () -> x.together(0, 0, 0));
        Checks.dueThrow("together(3, 3, 0)", Checks.NO_SUCH, () -> x.together(3, 3, 0));
        Checks.dueThrow("together(0, 3, 0)", Checks.NO_SUCH, () -> x.together(0, 3, 0));
        Checks.dueThrow("together(3, 0, 0)", Checks.NO_SUCH, () -> x.together(3, 0, 0));
        Checks.dueThrow("together(0, 0, 6)", Checks.NO_SUCH, () -> x.together(0, 0, 6));
        Checks.dueThrow("together(0, 1, -1)", Checks.NO_SUCH, () -> x.together(0, 1, -1));
        StoutShelf y = Checks.told("reader;reader;book 50 of 0;book 40;");
        Checks.due("a friend with nothing", y.together(1, 0, 1), -1);
        Checks.due("with such a friend", y.together(0, 1, 1), 1);
    }

    /* All BOOKS have other PAGES, the READERS the longest: all ways to share can be come to but what is over. */
    private static void spent() {
        String three = "book 99 of 0;book 98 of 0;book 97 of 0;";
        String other = "book 96 of 1;book 95 of 1;book 94 of 1;";
        String shelf = "book 9;book 8;book 7;book 6;book 5;book 4;";
        StoutShelf x = Checks.told("reader;reader;" + three + other + shelf);
        Checks.due("spent", x.together(0, 1, 6), -2);
        Checks.due("spent though he has it", x.together(0, 1, 0), -2);
        Checks.due("the row of a week stays as it was", x.count(3), 0);
        StoutShelf y = Checks.told("reader;reader;" + three + other);
        Checks.due("twenty states", y.together(0, 1, 5), 1);
        edges();
    }

    /* These were found by counting: just 4000 states, and 4004 (4001 none was found to have). */
    private static void edges() {
        StoutShelf x = Checks.told(Checks.library(2, new int[] {7, 6, 3, 9, 1, 5, 1, 3, 8, 5},
                new int[] {0, 0, -1, 1, -1, -1, -1, 1, 1, 0}));
        Checks.due("4000 states", x.together(0, 1, 0), 0);
        Checks.due("4000 states", x.together(0, 1, 3), 1);
        StoutShelf y = Checks.told(Checks.library(2, new int[] {1, 11, 9, 2, 7, 9, 4, 3, 8, 3, 1, 9},
                new int[] {-1, 0, 0, 0, 1, 0, 1, -1, -1, 0, 0, -1}));
        Checks.due("4004 states", y.together(0, 1, 1), -2);
    }
}
