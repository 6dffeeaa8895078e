/** Promises 8 to 12, on MOVES: each sentence that names an edge, by its own words. */
public final class MoveEdgesTest {
    private static final String TEXT = "reader;reader;reader;book 50 of 0;book 30 of 1;book 40;book 30;"
            + "book 20 of 0;book 31;";

    public static void main(String[] args) {
        likewise();
        noSuch();
        hasNot();
        notThere();
        pages();
        full();
        undo();
        judge();
        move();
        Checks.end();
    }

    private static void exchangeDue(StoutShelf x, int reader, int left, int taken, int want) {
        String call = "(" + reader + ", " + left + ", " + taken + ")";
        int refused = x.count(7);
        int moves = x.count(3);
        Checks.due("exchange" + call, x.exchange(reader, left, taken), want);
        stateDue(x, want, moves, refused);
    }

    private static void swapDue(StoutShelf x, int reader, int given, int other, int got, int want) {
        String call = "(" + reader + ", " + given + ", " + other + ", " + got + ")";
        int refused = x.count(7);
        int moves = x.count(3);
        Checks.due("swap" + call, x.swap(reader, given, other, got), want);
        stateDue(x, want, moves, refused);
    }

    /* A refused MOVE is counted and changes nothing else. */
    private static void stateDue(StoutShelf x, int want, int moves, int refused) {
        Checks.due("status 1", x.count(7), want == 0 ? refused : refused + 1);
        Checks.due("moves", x.count(3), want == 0 ? moves + 1 : moves);
    }

    private static void likewise() {
        Checks.sentence("AN EXCHANGE (left, then taken): 0, or the TROUBLE (STATUS 1).", () -> {
            StoutShelf x = Checks.told(TEXT);
            exchangeDue(x, 0, 2, 0, 2);
            Checks.due("a refused one changes nothing", x.reader(0, 1), 17);
            exchangeDue(x, 0, 0, 2, 0);
            Checks.due("left", x.book(0, 5), -1);
            Checks.due("taken", x.book(2, 5), 0);
            Checks.due("the others stay", x.book(4, 5), 0);
            Checks.due("the shelf", x.count(2), 111);
        });
        Checks.sentence("A SWAP: likewise.", () -> {
            StoutShelf x = Checks.told(TEXT);
            swapDue(x, 0, 1, 1, 0, 2);
            Checks.due("a refused one changes nothing", x.reader(0, 1), 17);
            Checks.due("a refused one changes nothing", x.reader(1, 1), 2);
            swapDue(x, 0, 0, 1, 1, 0);
            Checks.due("given", x.book(0, 5), 1);
            Checks.due("got", x.book(1, 5), 0);
            Checks.due("the shelf stays", x.count(2), 101);
            swapDue(x, 1, 0, 0, 1, 0);
            Checks.due("back", x.reader(0, 1), 17);
            Checks.due("both are written down", x.count(3), 2);
        });
    }

    private static void noSuch() {
        int[] noReader = {-1, 3, 4, 5, 6, Integer.MAX_VALUE, Integer.MIN_VALUE};
        int[] noBook = {-1, 6, 11, 12, 31, 32, 33, Integer.MAX_VALUE, Integer.MIN_VALUE};
        Checks.sentence("1 no such READER, BOOK", () -> {
            StoutShelf x = Checks.told(TEXT);
            for (int r : noReader) {
                exchangeDue(x, r, 0, 2, 1);
                swapDue(x, r, 0, 1, 1, 1);
                swapDue(x, 0, 0, r, 1, 1);
                swapDue(x, r, 0, r, 1, 1);
            }
            for (int b : noBook) {
                exchangeDue(x, 0, b, 2, 1);
                exchangeDue(x, 0, 0, b, 1);
                exchangeDue(x, 0, 1, b, 1);
                swapDue(x, 0, b, 1, 1, 1);
                swapDue(x, 0, 0, 1, b, 1);
                swapDue(x, 0, 1, 1, b, 1);
            }
            Checks.due("nothing changed", x.reader(0, 1), 17);
        });
        Checks.sentence("a SWAP of one with himself", () -> {
            StoutShelf x = Checks.told(TEXT);
            swapDue(x, 0, 0, 0, 4, 1);
            swapDue(x, 0, 0, 0, 0, 1);
            swapDue(x, 0, 1, 0, 1, 1);
            swapDue(x, 2, 2, 2, 3, 1);
            Checks.due("nothing changed", x.reader(0, 1), 17);
        });
    }

    private static void hasNot() {
        Checks.sentence("2 he hasn't the BOOK that he would leave", () -> {
            StoutShelf x = Checks.told(TEXT);
            exchangeDue(x, 0, 1, 2, 2);
            exchangeDue(x, 0, 2, 3, 2);
            exchangeDue(x, 2, 0, 3, 2);
            exchangeDue(x, 1, 0, 4, 2);
            exchangeDue(x, 0, 2, 2, 2);
            swapDue(x, 0, 1, 1, 1, 2);
            swapDue(x, 0, 2, 1, 1, 2);
            swapDue(x, 1, 0, 0, 1, 2);
            swapDue(x, 2, 3, 0, 0, 2);
        });
    }

    private static void notThere() {
        Checks.sentence("3 the other one isn't on THE SHELF (of a SWAP: the other one hasn't it)", () -> {
            StoutShelf x = Checks.told(TEXT);
            exchangeDue(x, 0, 0, 1, 3);
            exchangeDue(x, 0, 0, 4, 3);
            exchangeDue(x, 0, 0, 0, 3);
            exchangeDue(x, 1, 1, 0, 3);
            swapDue(x, 0, 0, 1, 2, 3);
            swapDue(x, 0, 0, 1, 4, 3);
            swapDue(x, 0, 0, 1, 0, 3);
            swapDue(x, 0, 0, 2, 1, 3);
        });
    }

    private static void pages() {
        Checks.sentence("4 it has as many PAGES or more (not of a SWAP)", () -> {
            StoutShelf x = Checks.told(TEXT);
            exchangeDue(x, 1, 1, 3, 4);
            exchangeDue(x, 1, 1, 5, 4);
            exchangeDue(x, 1, 1, 2, 4);
            swapDue(x, 1, 1, 0, 0, 0);
            swapDue(x, 1, 0, 0, 1, 0);
            exchangeDue(x, 0, 0, 2, 0);
            exchangeDue(x, 0, 2, 5, 0);
            exchangeDue(x, 0, 5, 3, 0);
            exchangeDue(x, 0, 3, 5, 4);
            StoutShelf y = Checks.told("reader;reader;book 7 of 0;book 7 of 1;book 6;");
            swapDue(y, 0, 0, 1, 1, 0);
            exchangeDue(y, 0, 1, 2, 0);
        });
    }

    private static void full() {
        Checks.sentence("MOVES are written down (at most 200; 5: there are so many)", () -> {
            StoutShelf x = Checks.told(TEXT);
            for (int i = 0; i < 199; i++) {
                x.swap(0, i % 2, 1, 1 - i % 2);
            }
            Checks.due("199", x.count(3), 199);
            exchangeDue(x, 1, 0, 2, 0);
            Checks.due("200", x.count(3), 200);
            exchangeDue(x, 1, 2, 3, 5);
            swapDue(x, 0, 1, 1, 2, 5);
            Checks.due("nothing changed", x.book(2, 5), 1);
            Checks.due("an undone one makes room", x.undo(), 199);
            swapDue(x, 0, 1, 1, 0, 0);
            swapDue(x, 0, 0, 1, 1, 5);
        });
        Checks.sentence("TROUBLES, the least", () -> {
            StoutShelf x = Checks.told(TEXT);
            for (int i = 0; i < 200; i++) {
                x.swap(0, i % 2, 1, 1 - i % 2);
            }
            exchangeDue(x, 3, 9, 9, 1);
            exchangeDue(x, 0, 1, 1, 2);
            exchangeDue(x, 0, 0, 1, 3);
            exchangeDue(x, 1, 1, 2, 4);
            exchangeDue(x, 0, 0, 2, 5);
            swapDue(x, 0, 1, 0, 2, 1);
            swapDue(x, 0, 1, 1, 2, 2);
            swapDue(x, 0, 0, 1, 2, 3);
            swapDue(x, 0, 0, 1, 1, 5);
        });
    }

    private static void undo() {
        Checks.sentence("and UNDONE from the end", () -> {
            StoutShelf x = Checks.told(TEXT);
            x.exchange(0, 0, 2);
            x.swap(0, 2, 1, 1);
            x.exchange(1, 2, 3);
            Checks.due("undo", x.undo(), 2);
            Checks.due("0 has", x.reader(0, 1), 2 + 16);
            Checks.due("1 has", x.reader(1, 1), 4);
            Checks.due("undo", x.undo(), 1);
            Checks.due("0 has", x.reader(0, 1), 4 + 16);
            Checks.due("1 has", x.reader(1, 1), 2);
            Checks.due("undo", x.undo(), 0);
            Checks.due("0 has", x.reader(0, 1), 1 + 16);
            Checks.due("the shelf", x.count(2), 101);
        });
        Checks.sentence("The last MOVE is UNDONE: how many are left. NONE: there are none.", () -> {
            StoutShelf x = Checks.told(TEXT);
            Checks.due("none", x.undo(), -1);
            Checks.due("again", x.undo(), -1);
            x.exchange(0, 0, 1);
            Checks.due("a refused one is none", x.undo(), -1);
            x.exchange(0, 0, 2);
            Checks.due("the only one", x.undo(), 0);
            Checks.due("none", x.undo(), -1);
            Checks.due("it is no refused move", x.count(7), 1);
        });
    }

    private static void judge() {
        Checks.sentence("What TROUBLE (1 to 4) an EXCHANGE would have; 0: none.", () -> {
            StoutShelf x = Checks.told(TEXT);
            for (int r = -1; r <= 3; r++) {
                for (int left = -1; left <= 6; left++) {
                    for (int taken = -1; taken <= 6; taken++) {
                        Checks.due("judge(" + r + ", " + left + ", " + taken + ")", x.judge(r, left, taken),
                                troubleByHand(r, left, taken));
                    }
                }
            }
            Checks.due("it is no move", x.count(3), 0);
            Checks.due("nor a refused one", x.count(7), 0);
            StoutShelf y = Checks.told(TEXT);
            for (int i = 0; i < 200; i++) {
                y.swap(0, i % 2, 1, 1 - i % 2);
            }
            Checks.due("that there are 200 is none of it", y.judge(0, 0, 2), 0);
            Checks.due("but of the exchange", y.exchange(0, 0, 2), 5);
        });
    }

    private static int troubleByHand(int r, int left, int taken) {
        int[] leaves = {50, 30, 40, 30, 20, 31};
        int[] owner = {0, 1, -1, -1, 0, -1};
        if (r < 0 || r > 2 || left < 0 || left > 5 || taken < 0 || taken > 5) {
            return 1;
        }
        return owner[left] != r ? 2 : owner[taken] != -1 ? 3 : leaves[taken] >= leaves[left] ? 4 : 0;
    }

    private static void move() {
        Checks.sentence("3 the other READER of a SWAP (NONE)", () -> {
            StoutShelf x = Checks.told(TEXT);
            x.exchange(0, 0, 2);
            x.swap(1, 1, 0, 4);
            int[][] want = {{0, 0, 2, -1}, {1, 1, 4, 0}};
            for (int i = 0; i < 2; i++) {
                for (int what = 0; what < 4; what++) {
                    Checks.due("move(" + i + ", " + what + ")", x.move(i, what), want[i][what]);
                }
            }
        });
        Checks.sentence("NoSuchElementException: there is none, another what. ## Promise 13", () -> {
            StoutShelf x = Checks.told(TEXT);
            Checks.dueThrow("without moves", Checks.NO_SUCH, () -> x.move(0, 0));
            x.exchange(0, 0, 2);
            Checks.due("the first", x.move(0, 2), 2);
            for (int i : new int[] {-1, 1, 200, Integer.MAX_VALUE, Integer.MIN_VALUE}) {
                Checks.dueThrow("move(" + i + ", 0)", Checks.NO_SUCH, () -> x.move(i, 0));
            }
            for (int what : new int[] {-1, 4, Integer.MAX_VALUE, Integer.MIN_VALUE}) {
                Checks.dueThrow("move(0, " + what + ")", Checks.NO_SUCH, () -> x.move(0, what));
            }
            x.undo();
            Checks.dueThrow("an undone one", Checks.NO_SUCH, () -> x.move(0, 0));
            for (int i = 0; i < 200; i++) {
                x.swap(0, i % 2, 1, 1 - i % 2);
            }
            Checks.due("the last of 200", x.move(199, 1), 1);
            Checks.dueThrow("move(200, 0)", Checks.NO_SUCH, () -> x.move(200, 0));
        });
    }
}
