/** Promises 13 to 21, what can be come to: each sentence that names an edge, by its own words. */
public final class SearchEdgesTest {
    private static final String TEXT = "reader;reader;reader;book 30 of 0;book 10 of 0;book 20;book 30;book 5;book 25 of 1;";

    public static void main(String[] args) {
        reach();
        together();
        spentTogether();
        week();
        weekOrder();
        spentWeek();
        row();
        lost();
        worth();
        bind();
        bestTwo();
        fire();
        Checks.end();
    }

    private static void reach() {
        Checks.sentence("BOOKS that he can come to have by EXCHANGES of his own alone (those that he has, too)", () -> {
            StoutShelf x = Checks.told(TEXT);
            Checks.due("not as long a one, not another's", x.reach(0), 1 + 2 + 4 + 16);
            Checks.due("of one who has one", x.reach(1), 4 + 16 + 32);
            Checks.due("of one who has none", x.reach(2), 0);
            Checks.due("of an empty shelf", Checks.told("reader;book 5 of 0;").reach(0), 1);
            Checks.due("of none at all", Checks.told("reader;").reach(0), 0);
            Checks.due("of all", Checks.told("reader;" + "book 5;".repeat(11) + "book 6 of 0;").reach(0), 4095);
        });
        Checks.sentence("the fewest EXCHANGES (0: he has it); NONE: none.", () -> {
            StoutShelf x = Checks.told(TEXT);
            Checks.due("he has it", x.way(0, 0), 0);
            Checks.due("one", x.way(0, 2), 1);
            Checks.due("one, though two would do as well", x.way(0, 4), 1);
            Checks.due("as many pages", x.way(0, 3), -1);
            Checks.due("another's", x.way(0, 5), -1);
            Checks.due("of one who has none", x.way(2, 4), -1);
            Checks.due("nothing is made", x.count(3), 0);
        });
    }

    private static void together() {
        Checks.sentence("the fewest MOVES; NONE: none; -2: SPENT.", () -> {
            StoutShelf x = Checks.told("reader;reader;reader;book 50 of 0;book 10 of 1;book 40;book 60 of 2;book 70;book 50;");
            Checks.due("he has it", x.together(1, 0, 1), 0);
            Checks.due("a swap", x.together(1, 0, 0), 1);
            Checks.due("an exchange", x.together(0, 1, 2), 1);
            Checks.due("both", x.together(1, 0, 2), 2);
            Checks.due("as many pages", x.together(1, 0, 5), -1);
            Checks.due("too many pages", x.together(1, 0, 4), -1);
            Checks.due("a third one's", x.together(1, 0, 3), -1);
            Checks.due("nothing is made", x.count(3), 0);
            Checks.due("nor refused", x.count(7), 0);
            StoutShelf y = Checks.told("reader;reader;book 50 of 0;book 40;");
            Checks.due("of one who has none", y.together(1, 0, 1), -1);
            Checks.due("of one who has none", y.together(1, 0, 0), -1);
            Checks.due("with one who has none", y.together(0, 1, 1), 1);
            Checks.due("nobody has any", Checks.told("reader;reader;book 5;").together(0, 1, 0), -1);
        });
        Checks.sentence("IllegalArgumentException (behind NoSuchElementException): a FRIEND that is himself.", () -> {
            StoutShelf x = Checks.told(TEXT);
            Checks.dueThrow("himself", Checks.ILLEGAL, () -> x.together(0, 0, 0));
            Checks.dueThrow("himself", Checks.ILLEGAL, () -> x.together(2, 2, 5));
            Checks.dueThrow("no such readers", Checks.NO_SUCH, () -> x.together(3, 3, 0));
            Checks.dueThrow("no such readers", Checks.NO_SUCH, () -> x.together(-1, -1, 0));
            Checks.dueThrow("no such book", Checks.NO_SUCH, () -> x.together(1, 1, 6));
            Checks.dueThrow("no such book", Checks.NO_SUCH, () -> x.together(1, 1, -1));
        });
    }

    /*
     * While both have some, SWAPS share what both have in all ways: the states are C(k, m) times the sets that both
     * can have. 4001 and 4003 are primes, and 4002 would need 667 sets of six, which no PAGES give (all were tried):
     * above 4000 the next are 4004.
     */
    private static void spentTogether() {
        Checks.sentence("SPENT: more than 4000 states (who of both has what, the first counted) can be come to at all.", () -> {
            StoutShelf x = Checks.told(Checks.library(2, new int[] {7, 6, 3, 9, 1, 5, 1, 3, 8, 5},
                    new int[] {0, 0, -1, 1, -1, -1, -1, 1, 1, 0}));
            Checks.due("4000 states", x.together(0, 1, 0), 0);
            Checks.due("4000 states", x.together(0, 1, 3), 1);
            Checks.due("4000 states", x.together(1, 0, 2), 1);
            StoutShelf y = Checks.told(Checks.library(2, new int[] {1, 11, 9, 2, 7, 9, 4, 3, 8, 3, 1, 9},
                    new int[] {-1, 0, 0, 0, 1, 0, 1, -1, -1, 0, 0, -1}));
            Checks.due("4004 states, though he has it", y.together(0, 1, 1), -2);
            Checks.due("4004 states, though it can't be", y.together(1, 0, 11), -2);
            Checks.due("4004 states, of the other one", y.together(1, 0, 4), -2);
            Checks.due("a week can still be", y.week(), 0);
            Checks.due("its row", y.row(-1, 0), 0);
            Checks.due("spent again", y.together(0, 1, 0), -2);
            Checks.due("the row stays", y.row(-1, 0), 0);
            StoutShelf z = Checks.told("reader;reader;reader;book 99 of 0;book 98 of 0;book 97 of 0;"
                    + "book 96 of 1;book 95 of 1;book 94 of 1;book 9;book 8;book 7;book 6;book 5;book 4;");
            Checks.due("spent", z.together(0, 1, 6), -2);
            Checks.due("not with one who has none", z.together(0, 2, 6), 1);
            Checks.due("spent again", z.together(1, 0, 6), -2);
            Checks.due("not with one who has none", z.together(1, 2, 0), -1);
        });
    }

    private static void rowDue(StoutShelf x, int... want) {
        Checks.due("how many", x.row(-1, 0), want.length / 3);
        for (int i = 0; i < want.length; i++) {
            Checks.due("row(" + i / 3 + ", " + i % 3 + ")", x.row(i / 3, i % 3), want[i]);
        }
        Checks.dueThrow("one more", Checks.NO_SUCH, () -> x.row(want.length / 3, 0));
    }

    private static void week() {
        Checks.sentence("each READER makes at most one EXCHANGE, in some order", () -> {
            // 1 and 2 each want a book of 0's, who may leave but one of them.
            StoutShelf x = Checks.told("reader;reader;reader;book 50 of 0;book 45 of 0;book 60 of 1;book 61 of 2;"
                    + "book 1;book 2;wants 1 0;wants 2 1;");
            Checks.due("week", x.week(), 1);
            rowDue(x, 0, 0, 4, 1, 2, 0);
            // Each wants what the one ahead of him leaves: only one order serves all five.
            StoutShelf y = Checks.told("reader;".repeat(5) + "book 10 of 4;book 20 of 3;book 30 of 2;book 40 of 1;"
                    + "book 50 of 0;book 1;wants 4 5;wants 3 0;wants 2 1;wants 1 2;wants 0 3;");
            Checks.due("week", y.week(), 5);
            rowDue(y, 4, 0, 5, 3, 1, 0, 2, 2, 1, 1, 3, 2, 0, 4, 3);
        });
        Checks.sentence("SERVED is a READER who WANTS a BOOK and has it behind the WEEK", () -> {
            StoutShelf x = Checks.told("reader;reader;book 50 of 0;book 20;book 60 of 1;wants 0 0;wants 1 0;");
            Checks.due("one of both", x.week(), 1);
            rowDue(x);
            Checks.due("who wants nothing", Checks.told("reader;book 5 of 0;book 4;").week(), 0);
            Checks.due("who has nothing", Checks.told("reader;book 5;wants 0 0;").week(), 0);
            Checks.due("as many pages", Checks.told("reader;book 5;book 5 of 0;wants 0 0;").week(), 0);
            Checks.due("no readers", Checks.told("book 5;book 6;").week(), 0);
            Checks.due("no books", Checks.told("reader;reader;").week(), 0);
        });
    }

    private static void weekOrder() {
        Checks.sentence("a row counts as it is at each place (the empty one, too)", () -> {
            StoutShelf x = Checks.told("reader;reader;book 50 of 0;book 20;book 60 of 1;wants 0 0;");
            Checks.due("as it is", x.week(), 1);
            rowDue(x);
            StoutShelf y = Checks.told("reader;reader;book 50 of 0;book 20;book 60 of 1;wants 0 1;");
            Checks.due("behind one", y.week(), 1);
            rowDue(y, 0, 0, 1);
        });
        Checks.sentence("at each place all READERS who made none yet, the least first, BOOKS to leave, then to take", () -> {
            StoutShelf x = Checks.told("reader;reader;book 40 of 0;book 30 of 1;book 10;book 20;wants 1 3;");
            Checks.due("week", x.week(), 1);
            rowDue(x, 0, 0, 2, 1, 1, 3);
            StoutShelf y = Checks.told("reader;book 20;book 40 of 0;book 50 of 0;book 60 of 0;wants 0 0;");
            Checks.due("the least to leave", y.week(), 1);
            rowDue(y, 0, 1, 0);
            StoutShelf z = Checks.told("reader;reader;book 20;book 40 of 1;book 21;book 22;book 50 of 0;wants 0 1;");
            Checks.due("the least to take", z.week(), 1);
            rowDue(z, 1, 1, 0, 0, 4, 1);
        });
        Checks.sentence("The most who can be SERVED", () -> {
            // The first rows serve one; a later one serves both.
            StoutShelf x = Checks.told("reader;reader;book 40 of 0;book 30 of 0;book 20;book 35 of 1;wants 0 2;wants 1 1;");
            Checks.due("week", x.week(), 2);
            rowDue(x, 0, 1, 2, 1, 3, 1);
        });
    }

    private static void spentWeek() {
        Checks.sentence("More than 20,000 TRIES: SPENT.", () -> {
            StoutShelf x = Checks.told(Checks.library(5, new int[] {7, 11, 8, 2, 8, 8, 3, 3, 1, 11, 2},
                    new int[] {-1, 2, 2, -1, -1, 0, -1, 4, -1, 1, 3}) + "wants 4 8;");
            Checks.due("20,000 tries", x.week(), 1);
            Checks.due("its row", x.row(0, 0), 0);
            Checks.due("20,000 tries again", x.week(), 1);
            StoutShelf last = Checks.told(Checks.library(5, new int[] {8, 10, 9, 6, 12, 7, 4, 8, 17, 11, 15, 10},
                    new int[] {-1, 2, -1, 2, -1, 3, -1, 4, 0, 2, 1, 3}) + "wants 0 10;wants 1 9;wants 2 11;wants 3 7;");
            Checks.due("only the 20,000th serves four", last.week(), 4);
            rowDue(last, 4, 7, 6, 3, 11, 7, 2, 9, 11, 1, 10, 9, 0, 8, 10);
            Checks.due("20,001 tries", spentLibrary().week(), -2);
            Checks.due("20,001 tries, the last of another book to leave", Checks.told(Checks.library(5,
                    new int[] {10, 5, 2, 5, 4, 12, 7, 4, 2, 1, 2}, new int[] {3, -1, -1, 1, 0, 2, -1, 2, -1, -1, 4}))
                    .week(), -2);
        });
        Checks.sentence("-2: SPENT (what is kept stays).", () -> {
            StoutShelf x = spentLibrary();
            Checks.due("spent", x.week(), -2);
            Checks.dueThrow("none is kept", Checks.NO_SUCH, () -> x.row(-1, 0));
            Checks.due("an exchange, so that there is less to try", x.exchange(3, 5, 9), 0);
            Checks.due("a week", x.week(), 0);
            Checks.due("its row", x.row(-1, 0), 0);
            Checks.due("undone", x.undo(), 0);
            Checks.due("spent", x.week(), -2);
            Checks.due("its row", x.row(-1, 0), 0);
            Checks.due("nothing is made", x.count(3), 0);
            Checks.due("who has what stays", x.book(5, 5), 3);
        });
    }

    private static StoutShelf spentLibrary() {
        return Checks.told(Checks.library(5, new int[] {8, 8, 3, 7, 5, 12, 8, 4, 8, 1, 13},
                new int[] {0, 2, 1, 4, -1, 3, -1, -1, -1, -1, 0}) + "wants 3 8;");
    }

    private static void row() {
        String chain = "reader;reader;book 40 of 0;book 30 of 1;book 20;wants 0 1;wants 1 2;";
        Checks.sentence("how many there are (i NONE, whatever else)", () -> {
            StoutShelf x = Checks.told(chain);
            x.week();
            for (int what : new int[] {0, 2, 3, -1, 77, Integer.MAX_VALUE, Integer.MIN_VALUE}) {
                Checks.due("row(-1, " + what + ")", x.row(-1, what), 2);
            }
        });
        Checks.sentence("NoSuchElementException: none is kept, there is none, another what.", () -> {
            StoutShelf x = Checks.told(chain);
            Checks.dueThrow("none is kept", Checks.NO_SUCH, () -> x.row(-1, 0));
            Checks.dueThrow("none is kept", Checks.NO_SUCH, () -> x.row(0, 0));
            x.week();
            rowDue(x, 1, 1, 2, 0, 0, 1);
            for (int i : new int[] {2, -2, 5, Integer.MAX_VALUE, Integer.MIN_VALUE}) {
                Checks.dueThrow("row(" + i + ", 0)", Checks.NO_SUCH, () -> x.row(i, 0));
            }
            for (int what : new int[] {-1, 3, Integer.MAX_VALUE, Integer.MIN_VALUE}) {
                Checks.dueThrow("row(0, " + what + ")", Checks.NO_SUCH, () -> x.row(0, what));
            }
            Checks.due("an exchange leaves it", x.exchange(1, 1, 2), 0);
            rowDue(x, 1, 1, 2, 0, 0, 1);
            Checks.due("another week", x.week(), 2);
            rowDue(x, 0, 0, 1);
        });
    }

    private static void lostDue(StoutShelf x, int book, int leaves, int which) {
        Checks.due("lost(" + book + ", 0)", x.lost(book, 0), leaves);
        Checks.due("lost(" + book + ", 1)", x.lost(book, 1), which);
    }

    private static void lost() {
        Checks.sentence("LOST is a BOOK on THE SHELF for which no READER could leave any BOOK that he has", () -> {
            StoutShelf x = Checks.told("reader;reader;book 10 of 0;book 12 of 1;book 9;book 11;book 12;law leaves+blanks;");
            lostDue(x, 2, 0, -1);
            lostDue(x, 3, 0, -1);
            lostDue(x, 4, 1, 1);
            Checks.due("exchange", x.exchange(1, 1, 3), 0);
            lostDue(x, 1, 2, 3);
            StoutShelf y = Checks.told("reader;".repeat(5) + "book 10 of 4;book 20;book 30;law leaves+blanks;");
            lostDue(y, 1, 11, 0);
            lostDue(y, 2, 21, 0);
        });
        Checks.sentence("the fewest BLANKS (1 to 99) by which some BOOK that a READER has, had it so many more", () -> {
            StoutShelf x = Checks.told("reader;book 1 of 0;book 99 blanks 1;book 99;book 98;book 1;law leaves+blanks;");
            lostDue(x, 1, -1, -1);
            lostDue(x, 2, 99, 0);
            lostDue(x, 3, 98, 0);
            lostDue(x, 4, 1, 0);
            StoutShelf y = Checks.told("reader;book 1 blanks 99 of 0;book 9;law if blanks=198 then 99 else leaves end;");
            lostDue(y, 1, 99, 0);
            StoutShelf z = Checks.told("reader;book 1 of 0;book 9;law if blanks=7 or blanks=9 then 99 else leaves end;");
            lostDue(z, 1, 7, 0);
        });
        Checks.sentence("of as few the least BOOK", () -> {
            StoutShelf x = Checks.told("reader;reader;book 20;book 9 of 1;book 12 of 1;book 12 of 0;law leaves+blanks;");
            lostDue(x, 0, 9, 2);
            StoutShelf y = Checks.told("reader;book 20;book 19;book 20 of 0;book 20 of 0;law leaves+blanks;");
            lostDue(y, 0, 1, 2);
        });
        Checks.sentence("0 (what 1: NONE): it isn't LOST; NONE: none do.", () -> {
            StoutShelf x = Checks.told("reader;book 10 of 0;book 9;book 11;");
            lostDue(x, 0, 0, -1);
            lostDue(x, 1, 0, -1);
            lostDue(x, 2, -1, -1);
            lostDue(Checks.told("reader;book 5;"), 0, -1, -1);
            lostDue(Checks.told("book 5;book 6;law leaves+blanks;"), 0, -1, -1);
        });
        Checks.sentence("NoSuchElementException: also another what. ## Promise 19", () -> {
            StoutShelf x = Checks.told("reader;book 10 of 0;book 9;book 11;");
            for (int what : new int[] {-1, 2, Integer.MAX_VALUE, Integer.MIN_VALUE}) {
                for (int b = 0; b < 3; b++) {
                    int book = b;
                    Checks.dueThrow("lost(" + b + ", " + what + ")", Checks.NO_SUCH, () -> x.lost(book, what));
                }
            }
        });
    }

    private static void worth() {
        Checks.sentence("how many BOOKS are in his REACH then, less how many now. BINDING", () -> {
            StoutShelf x = Checks.told("reader;reader;book 10 of 0;book 5 of 0;book 10;book 10;book 11;book 9 of 1;book 9;"
                    + "law leaves+blanks;");
            Checks.due("of the longest", x.worth(0), 2);
            Checks.due("of another", x.worth(1), 0);
            Checks.due("of another's", x.worth(5), 1);
            Checks.due("less", Checks.told("reader;book 10 of 0;book 9;book 8;law leaves-2*blanks;").worth(0), -2);
            Checks.due("the 100th", Checks.told("reader;book 5 blanks 99 of 0;book 7;law if blanks=100 then 8 else leaves end;")
                    .worth(0), 1);
        });
        Checks.sentence("IllegalArgumentException (behind NoSuchElementException): no READER has the BOOK.", () -> {
            StoutShelf x = Checks.told("reader;book 10 of 0;book 5;");
            Checks.dueThrow("the shelf's", Checks.ILLEGAL, () -> x.worth(1));
            Checks.dueThrow("no such book", Checks.NO_SUCH, () -> x.worth(2));
            Checks.dueThrow("no such book", Checks.NO_SUCH, () -> x.worth(-1));
            Checks.due("exchange", x.exchange(0, 0, 1), 0);
            Checks.due("his now", x.worth(1), 0);
            Checks.dueThrow("the shelf's now", Checks.ILLEGAL, () -> x.worth(0));
        });
    }

    private static void bindDue(StoutShelf x, int reader, int two, int by) {
        Checks.due("bind(" + reader + ", 0)", x.bind(reader, 0), two);
        Checks.due("bind(" + reader + ", 1)", x.bind(reader, 1), by);
    }

    private static void bind() {
        Checks.sentence("LEAVES and all are those of both together", () -> {
            bindDue(Checks.told("reader;book 99 of 0;book 99 of 0;book 1;law if leaves=198 then 2 else 0 end;"), 0, 1, 1);
            String law = "law if leaves=16 and blanks=198 and plates=7 and torn=9 then 99 else 0 end;";
            bindDue(Checks.told("reader;book 9 blanks 99 plates 2 torn 3 of 0;book 7 blanks 99 plates 5 torn 6 of 0;book 1;"
                    + law), 0, 1, 1);
            bindDue(Checks.told("reader;book 9 blanks 99 plates 2 torn 3 of 0;book 7 blanks 98 plates 5 torn 6 of 0;book 1;"
                    + law), 0, 1, 0);
        });
        Checks.sentence("less how many now, plus 1 (both were one)", () -> {
            bindDue(Checks.told("reader;book 9 of 0;book 8 of 0;"), 0, 1, 0);
            bindDue(Checks.told("reader;book 9 of 0;book 8 of 0;book 16;"), 0, 1, 1);
            bindDue(Checks.told("reader;book 9 of 0;book 8 of 0;book 17;"), 0, 1, 0);
            bindDue(Checks.told("reader;book 9 of 0;book 8 of 0;book 7;law if leaves<10 then leaves else 0 end;"), 0, 1, -1);
        });
        Checks.sentence("NONE (what 1: 0): he has fewer than two.", () -> {
            StoutShelf x = Checks.told("reader;reader;reader;book 9 of 1;book 8;book 7 of 2;book 6 of 2;");
            bindDue(x, 0, -1, 0);
            bindDue(x, 1, -1, 0);
            bindDue(x, 2, 16 * 2 + 3, 1);
        });
        Checks.sentence("NoSuchElementException: also another what. ## Promise 21", () -> {
            StoutShelf x = Checks.told("reader;reader;book 9 of 1;book 8 of 1;");
            for (int what : new int[] {-1, 2, Integer.MAX_VALUE, Integer.MIN_VALUE}) {
                Checks.dueThrow("bind(0, " + what + ")", Checks.NO_SUCH, () -> x.bind(0, what));
                Checks.dueThrow("bind(1, " + what + ")", Checks.NO_SUCH, () -> x.bind(1, what));
            }
        });
    }

    private static void bestTwo() {
        Checks.sentence("by which that is most, of like ones the least, then the least other one", () -> {
            bindDue(Checks.told("reader;" + "book 9 of 0;".repeat(12)), 0, 1, 0);
            bindDue(Checks.told("reader;book 5 of 0;book 4 of 0;book 5 of 0;book 9;"), 0, 2, 1);
            bindDue(Checks.told("reader;book 4 of 0;book 5 of 0;book 5 of 0;book 9;"), 0, 16 + 2, 1);
            bindDue(Checks.told("reader;book 5 of 0;book 3 of 0;book 5 of 0;book 5 of 0;book 9;"), 0, 2, 1);
            bindDue(Checks.told("reader;book 99;" + "book 1 of 0;".repeat(9) + "book 50 of 0;book 50 of 0;"), 0, 171, 1);
        });
        Checks.sentence("16 by the least and the other one (what 0), by how much (1)", () ->
            bindDue(Checks.told("reader;book 8;book 7;book 5 of 0;book 9;book 6 of 0;"), 0, 16 * 2 + 4, 3));
    }

    private static void fire() {
        Checks.sentence("A FIRE leaves so many BOOKS (0 to 12) of THE SHELF (all, if it has fewer)", () -> {
            StoutShelf x = Checks.told("reader;book 50 of 0;book 40;book 30;book 60;");
            Checks.due("none", x.fire(0), 0);
            Checks.due("all", x.fire(3), 14);
            Checks.due("it has fewer", x.fire(4), 14);
            Checks.due("it has fewer", x.fire(12), 14);
            Checks.due("nothing burns", x.count(2), 130);
            StoutShelf y = Checks.told("book 5;".repeat(12));
            Checks.due("all twelve", y.fire(12), 4095);
            Checks.due("eleven", y.fire(11), 2047);
            Checks.due("one", y.fire(1), 1);
            Checks.due("an empty shelf", Checks.told("reader;book 5 of 0;").fire(1), 0);
        });
        Checks.sentence("the set of so many by which most READERS can make an EXCHANGE; of like ones the least as bits", () -> {
            StoutShelf x = Checks.told("reader;reader;reader;book 30 of 0;book 20 of 1;book 10 of 2;"
                    + "book 40;book 25;book 15;book 5;book 4;book 30;");
            Checks.due("for all three", x.fire(1), 64);
            Checks.due("and the least beside", x.fire(2), 8 + 64);
            Checks.due("and the least beside", x.fire(3), 8 + 16 + 64);
            StoutShelf y = Checks.told("reader;reader;book 30;book 9 of 0;book 8;book 20 of 1;book 19;law 30-leaves;");
            Checks.due("as the law has it", y.fire(1), 1);
            Checks.due("of one reader alone", Checks.told("reader;book 50 of 0;book 60;book 50;book 40;").fire(1), 8);
            Checks.due("of the last alone", Checks.told("reader;".repeat(5) + "book 50 of 4;book 60;book 40;").fire(1), 4);
            Checks.due("of the first and the last", Checks.told("reader;".repeat(5)
                    + "book 50 of 4;book 60;book 49;book 20 of 0;book 19;").fire(1), 16);
        });
        Checks.sentence("IllegalArgumentException: many is not 0 to 12.", () -> {
            StoutShelf x = Checks.told("reader;book 50 of 0;book 40;");
            for (int many : new int[] {-1, 13, Integer.MAX_VALUE, Integer.MIN_VALUE}) {
                Checks.dueThrow("fire(" + many + ")", Checks.ILLEGAL, () -> x.fire(many));
            }
        });
    }
}
