import java.util.ArrayList;
import java.util.List;
import java.util.Random;

/** Random runs of calls, each answer held against the Model's: promises 5 to 29. */
public final class OracleTest {
    private static final int RUNS = 1500;
    private static final int CALLS = 120;

    private static int togetherSpent = 0;
    private static int weeksSpent = 0;
    private static int manyOrders = 0;

    private final Random random;
    private final RandomLibrary lib;
    private final Model model;
    private final StoutShelf x = new StoutShelf();
    private int refusedMoves;
    private int refusedEvents;
    private List<List<int[]>> image;

    private OracleTest(int seed) {
        random = new Random(seed);
        // Every fourth is full and has no strange LAW: only there are searches SPENT, and ORDERS many.
        lib = seed % 4 == 0 ? RandomLibrary.full(random)
                : new RandomLibrary(random, seed % 4 == 1 ? 6 : 12);
        model = new Model(lib);
    }

    public static void main(String[] args) {
        for (int seed = 0; seed < RUNS; seed++) {
            new OracleTest(seed).run();
        }
        System.out.println(togetherSpent + " searches and " + weeksSpent + " weeks spent, " + manyOrders + " with many orders");
        Checks.due("some searches TOGETHER are SPENT", togetherSpent > 20 ? 1 : 0, 1);
        Checks.due("some WEEKS are SPENT", weeksSpent > 20 ? 1 : 0, 1);
        Checks.due("some CATALOGUES have many ORDERS", manyOrders > 20 ? 1 : 0, 1);
        Checks.end();
    }

    private void run() {
        int found = Checks.tell(x, lib.text);
        Checks.due("library of " + lib.text, found, 0);
        state();
        for (int i = 0; i < CALLS; i++) {
            step();
        }
        state();
    }

    private int reader() {
        return random.nextInt(20) == 0 ? random.nextInt(9) - 2 : random.nextInt(Math.max(1, lib.readers));
    }

    private int book() {
        return random.nextInt(20) == 0 ? random.nextInt(16) - 2 : random.nextInt(Math.max(1, lib.books));
    }

    /* A BOOK that a place has, most times: random ones alone would seldom make a MOVE. */
    private int bookOf(int place) {
        List<Integer> all = new ArrayList<>();
        for (int b = 0; b < lib.books; b++) {
            if (model.owner[b] == place) all.add(b);
        }
        return all.isEmpty() || random.nextInt(5) == 0 ? book() : all.get(random.nextInt(all.size()));
    }

    private void due(String call, long got, long want) {
        if (got != want) System.out.println(lib.text);
        Checks.due(call, got, want);
    }

    private void refuses(String call, String want, Checks.Call run) {
        Checks.dueThrow(call, want, run);
    }

    private void step() {
        int r = reader();
        int b = book();
        switch (random.nextInt(18)) {
            case 0, 1 -> exchange(r);
            case 3 -> swap(r);
            case 2, 4 -> due("undo", x.undo(), model.undo());
            case 5, 16, 17 -> event(r);
            case 6 -> {
                if (model.events.isEmpty()) due("forget", x.forget(), -1);
                else {
                    model.events.remove(model.events.size() - 1);
                    due("forget", x.forget(), model.events.size());
                }
            }
            case 7 -> reachAndWay(r, b);
            case 8 -> together(r, b);
            case 9 -> week();
            case 10 -> lostAndWorth(b);
            case 11 -> bindAndFire(r);
            case 12 -> catalogue(b);
            case 13 -> hands(b);
            case 14 -> images();
            default -> state();
        }
    }

    private void exchange(int r) {
        int left = bookOf(r);
        int taken = bookOf(-1);
        due("judge", x.judge(r, left, taken), model.judge(model.owner, r, left, taken));
        int want = model.exchange(r, left, taken);
        refusedMoves += want == 0 ? 0 : 1;
        due("exchange", x.exchange(r, left, taken), want);
    }

    private void swap(int r) {
        int other = reader();
        int given = bookOf(r);
        int got = bookOf(other);
        int want = model.swap(r, given, other, got);
        refusedMoves += want == 0 ? 0 : 1;
        due("swap", x.swap(r, given, other, got), want);
    }

    private void event(int r) {
        int left = bookOf(r);
        int taken = bookOf(-1);
        int[] next = random.nextInt(5) > 0 ? possibleEvent() : null;
        if (next != null) {
            r = next[0];
            left = next[1];
            taken = next[2];
        }
        int want = model.event(r, left, taken);
        refusedEvents += want == -1 ? 1 : 0;
        due("event", x.event(r, left, taken), want);
    }

    /* One that could follow if all EVENTS told so far were made as they were told: random ones seldom have ORDERS. */
    private int[] possibleEvent() {
        int[] who = model.owner.clone();
        for (int[] e : model.events) {
            if (model.judge(who, e[0], e[1], e[2]) == 0) {
                who[e[1]] = -1;
                who[e[2]] = e[0];
            }
        }
        List<int[]> all = new ArrayList<>();
        for (int left = 0; left < lib.books; left++) {
            for (int taken = 0; taken < lib.books; taken++) {
                if (model.judge(who, who[left], left, taken) == 0) all.add(new int[] {who[left], left, taken});
            }
        }
        return all.isEmpty() ? null : all.get(random.nextInt(all.size()));
    }

    private void reachAndWay(int r, int b) {
        if (!model.isReader(r)) {
            refuses("reach(" + r + ")", Checks.NO_SUCH, () -> x.reach(r));
            refuses("way(" + r + ", " + b + ")", Checks.NO_SUCH, () -> x.way(r, b));
            return;
        }
        due("reach", x.reach(r), model.reach(r));
        if (!model.isBook(b)) refuses("way(" + r + ", " + b + ")", Checks.NO_SUCH, () -> x.way(r, b));
        else due("way", x.way(r, b), model.way(r, b));
    }

    private void together(int r, int b) {
        int friend = reader();
        if (!model.isReader(r) || !model.isReader(friend) || !model.isBook(b)) {
            refuses("together", Checks.NO_SUCH, () -> x.together(r, friend, b));
        } else if (r == friend) {
            refuses("together", Checks.ILLEGAL, () -> x.together(r, friend, b));
        } else {
            int want = model.together(r, friend, b);
            togetherSpent += want == -2 ? 1 : 0;
            due("together", x.together(r, friend, b), want);
        }
    }

    private void week() {
        int want = model.week();
        weeksSpent += want == -2 ? 1 : 0;
        due("week", x.week(), want);
        if (model.kept == null) {
            refuses("row(-1, 0)", Checks.NO_SUCH, () -> x.row(-1, 0));
            return;
        }
        due("row(-1, 5)", x.row(-1, 5), model.kept.size());
        for (int i = 0; i < model.kept.size(); i++) {
            for (int what = 0; what < 3; what++) {
                due("row(" + i + ", " + what + ")", x.row(i, what), model.kept.get(i)[what]);
            }
        }
        refuses("row past its end", Checks.NO_SUCH, () -> x.row(model.kept.size(), 0));
    }

    private void lostAndWorth(int b) {
        if (!model.isBook(b)) {
            refuses("lost(" + b + ", 0)", Checks.NO_SUCH, () -> x.lost(b, 0));
            refuses("worth(" + b + ")", Checks.NO_SUCH, () -> x.worth(b));
            return;
        }
        due("lost(" + b + ", 0)", x.lost(b, 0), model.lost(b, 0));
        due("lost(" + b + ", 1)", x.lost(b, 1), model.lost(b, 1));
        if (model.owner[b] == -1) refuses("worth(" + b + ")", Checks.ILLEGAL, () -> x.worth(b));
        else due("worth(" + b + ")", x.worth(b), model.worth(b));
    }

    private void bindAndFire(int r) {
        if (!model.isReader(r)) {
            refuses("bind(" + r + ", 0)", Checks.NO_SUCH, () -> x.bind(r, 0));
        } else {
            due("bind(" + r + ", 0)", x.bind(r, 0), model.bind(r, 0));
            due("bind(" + r + ", 1)", x.bind(r, 1), model.bind(r, 1));
        }
        int many = random.nextInt(13);
        due("fire(" + many + ")", x.fire(many), model.fire(many));
    }

    private void catalogue(int b) {
        int all = (1 << model.events.size()) - 1;
        int rows = model.rows(all, -1, 0);
        manyOrders += rows > 5 ? 1 : 0;
        due("orders", x.orders(), rows);
        due("knot", x.knot(), model.knot());
        int many = random.nextInt(10) - 1;
        if (!model.isBook(b)) {
            refuses("there(" + b + ", " + many + ")", Checks.NO_SUCH, () -> x.there(b, many));
        } else if (many < 0 || many > model.events.size()) {
            refuses("there(" + b + ", " + many + ")", Checks.ILLEGAL, () -> x.there(b, many));
        } else {
            due("there(" + b + ", " + many + ")", x.there(b, many), model.rows(all, b, many));
        }
    }

    private void hands(int b) {
        if (!model.isBook(b)) {
            refuses("hands(" + b + ", -1)", Checks.NO_SUCH, () -> x.hands(b, -1));
            return;
        }
        List<Integer> want = model.hands(b);
        due("hands(" + b + ", -1)", x.hands(b, -1), want.size());
        for (int i = 0; i < want.size(); i++) {
            due("hands(" + b + ", " + i + ")", x.hands(b, i), want.get(i));
        }
        refuses("hands past their end", Checks.NO_SUCH, () -> x.hands(b, want.size()));
    }

    private void images() {
        if (random.nextBoolean()) {
            x.image();
            image = List.of(new ArrayList<>(model.moves), new ArrayList<>(model.owners), new ArrayList<>(model.events));
            return;
        }
        due("restore", x.restore() ? 1 : 0, image == null ? 0 : 1);
        if (image != null) {
            model.moves.clear();
            model.moves.addAll(image.get(0));
            model.owners.clear();
            model.owners.addAll(image.get(1));
            model.events.clear();
            model.events.addAll(image.get(2));
            model.owner = model.owners.get(model.owners.size() - 1).clone();
        }
    }

    private void state() {
        int[] want = {lib.books, lib.readers, model.shelfPages(), model.moves.size(), model.events.size(), 0, 0,
            refusedMoves, refusedEvents};
        for (int what = 0; what < want.length; what++) {
            due("count(" + what + ")", x.count(what), want[what]);
        }
        for (int b = 0; b < lib.books; b++) {
            for (int k = 0; k < 4; k++) {
                due("book(" + b + ", " + k + ")", x.book(b, k), lib.parts[b][k]);
            }
            due("pages of " + b, x.book(b, 4), lib.pages(b));
            due("owner of " + b, x.book(b, 5), model.owner[b]);
        }
        for (int r = 0; r < lib.readers; r++) {
            due("wants", x.reader(r, 0), lib.wants[r]);
            due("has", x.reader(r, 1), model.has(r));
            boolean served = lib.wants[r] != -1 && model.owner[lib.wants[r]] == r;
            due("served", x.reader(r, 2), served ? 1 : 0);
        }
        for (int i = 0; i < model.moves.size(); i++) {
            for (int what = 0; what < 4; what++) {
                due("move(" + i + ", " + what + ")", x.move(i, what), model.moves.get(i)[what]);
            }
        }
    }
}
