import java.util.ArrayDeque;
import java.util.ArrayList;
import java.util.Arrays;
import java.util.HashMap;
import java.util.List;
import java.util.Map;

/** The document once more, by trying everything out: what the program's shorter ways are held against. */
final class Model {
    static final int NONE = -1;
    final RandomLibrary lib;
    int[] owner;
    final List<int[]> moves = new ArrayList<>();
    final List<int[]> owners = new ArrayList<>();
    final List<int[]> events = new ArrayList<>();
    List<int[]> kept = null;
    private int tries;
    private int best;
    private List<int[]> bestRow;

    Model(RandomLibrary lib) {
        this.lib = lib;
        owner = lib.owner.clone();
        owners.add(owner.clone());
    }

    boolean isBook(int b) {
        return b >= 0 && b < lib.books;
    }

    boolean isReader(int r) {
        return r >= 0 && r < lib.readers;
    }

    int judge(int[] who, int r, int left, int taken) {
        if (!isReader(r) || !isBook(left) || !isBook(taken)) return 1;
        if (who[left] != r) return 2;
        if (who[taken] != NONE) return 3;
        return lib.pages(taken) >= lib.pages(left) ? 4 : 0;
    }

    int exchange(int r, int left, int taken) {
        int trouble = judge(owner, r, left, taken);
        if (trouble == 0 && moves.size() == 200) trouble = 5;
        if (trouble == 0) {
            owner[left] = NONE;
            owner[taken] = r;
            write(r, left, taken, NONE);
        }
        return trouble;
    }

    int swap(int r, int given, int other, int got) {
        if (!isReader(r) || !isReader(other) || !isBook(given) || !isBook(got) || r == other) return 1;
        if (owner[given] != r) return 2;
        if (owner[got] != other) return 3;
        if (moves.size() == 200) return 5;
        owner[given] = other;
        owner[got] = r;
        write(r, given, got, other);
        return 0;
    }

    private void write(int... move) {
        moves.add(move);
        owners.add(owner.clone());
    }

    int undo() {
        if (moves.isEmpty()) return NONE;
        moves.remove(moves.size() - 1);
        owners.remove(owners.size() - 1);
        owner = owners.get(owners.size() - 1).clone();
        return moves.size();
    }

    List<Integer> hands(int book) {
        List<Integer> all = new ArrayList<>();
        for (int[] who : owners) {
            if (all.isEmpty() || all.get(all.size() - 1) != who[book]) all.add(who[book]);
        }
        return all;
    }

    int shelfPages() {
        int sum = 0;
        for (int b = 0; b < lib.books; b++) if (owner[b] == NONE) sum += lib.pages(b);
        return sum;
    }

    int has(int r) {
        int set = 0;
        for (int b = 0; b < lib.books; b++) if (owner[b] == r) set |= 1 << b;
        return set;
    }

    /* The fewest EXCHANGES to each BOOK, all states of one READER tried, with PAGES given. */
    private static int[] ways(int[] start, int[] pages, int r) {
        int[] ways = new int[start.length];
        Arrays.fill(ways, NONE);
        Map<String, Integer> seen = new HashMap<>();
        ArrayDeque<int[]> queue = new ArrayDeque<>();
        seen.put(Arrays.toString(start), 0);
        queue.add(start);
        while (!queue.isEmpty()) {
            int[] who = queue.remove();
            int far = seen.get(Arrays.toString(who));
            for (int b = 0; b < who.length; b++) if (who[b] == r && ways[b] == NONE) ways[b] = far;
            for (int left = 0; left < who.length; left++) {
                for (int taken = 0; taken < who.length; taken++) {
                    if (who[left] == r && who[taken] == NONE && pages[taken] < pages[left]) {
                        int[] then = who.clone();
                        then[left] = NONE;
                        then[taken] = r;
                        if (seen.putIfAbsent(Arrays.toString(then), far + 1) == null) queue.add(then);
                    }
                }
            }
        }
        return ways;
    }

    private int[] allPages() {
        int[] pages = new int[lib.books];
        for (int b = 0; b < lib.books; b++) pages[b] = lib.pages(b);
        return pages;
    }

    int way(int r, int book) {
        return ways(owner, allPages(), r)[book];
    }

    private static int reach(int[] who, int[] pages, int r) {
        int[] ways = ways(who, pages, r);
        int set = 0;
        for (int b = 0; b < ways.length; b++) if (ways[b] != NONE) set |= 1 << b;
        return set;
    }

    int reach(int r) {
        return reach(owner, allPages(), r);
    }

    int together(int r, int friend, int book) {
        Map<String, Integer> seen = new HashMap<>();
        ArrayDeque<int[]> queue = new ArrayDeque<>();
        seen.put(Arrays.toString(owner), 0);
        queue.add(owner.clone());
        int answer = NONE;
        while (!queue.isEmpty()) {
            int[] who = queue.remove();
            int far = seen.get(Arrays.toString(who));
            if (who[book] == r && answer == NONE) answer = far;
            for (int a = 0; a < lib.books; a++) {
                for (int b = 0; b < lib.books; b++) {
                    boolean exchange = (who[a] == r || who[a] == friend) && judge(who, who[a], a, b) == 0;
                    boolean swap = who[a] == r && who[b] == friend;
                    if (!exchange && !swap) continue;
                    int[] then = who.clone();
                    then[a] = who[b];
                    then[b] = who[a];
                    if (seen.putIfAbsent(Arrays.toString(then), far + 1) == null) queue.add(then);
                    if (seen.size() > 4000) return -2;
                }
            }
        }
        return answer;
    }

    int served(int[] who) {
        int n = 0;
        for (int r = 0; r < lib.readers; r++) if (lib.wants[r] != NONE && who[lib.wants[r]] == r) n++;
        return n;
    }

    int week() {
        tries = 0;
        best = -1;
        bestRow = null;
        weekFrom(owner.clone(), new ArrayList<>());
        if (tries > 20000) return -2;
        kept = bestRow;
        return best;
    }

    private void weekFrom(int[] who, List<int[]> row) {
        if (served(who) > best) {
            best = served(who);
            bestRow = new ArrayList<>(row);
        }
        for (int r = 0; r < lib.readers; r++) {
            int reader = r;
            if (row.stream().anyMatch(e -> e[0] == reader)) continue;
            for (int left = 0; left < lib.books; left++) {
                for (int taken = 0; taken < lib.books; taken++) {
                    if (judge(who, r, left, taken) != 0) continue;
                    if (++tries > 20000) return;
                    int[] then = who.clone();
                    then[left] = NONE;
                    then[taken] = r;
                    row.add(new int[] {r, left, taken});
                    weekFrom(then, row);
                    row.remove(row.size() - 1);
                    if (tries > 20000) return;
                }
            }
        }
    }

    int lost(int book, int what) {
        boolean lost = owner[book] == NONE;
        for (int b = 0; b < lib.books; b++) if (owner[b] != NONE && judge(owner, owner[b], b, book) == 0) lost = false;
        if (!lost) return what == 0 ? 0 : NONE;
        for (int more = 1; more <= 99; more++) {
            for (int b = 0; b < lib.books; b++) {
                int[] parts = lib.parts[b].clone();
                parts[1] += more;
                if (owner[b] != NONE && lib.pagesOf(parts) > lib.pages(book)) return what == 0 ? more : b;
            }
        }
        return NONE;
    }

    int worth(int book) {
        int[] pages = allPages();
        int before = Integer.bitCount(reach(owner, pages, owner[book]));
        int[] parts = lib.parts[book].clone();
        parts[1]++;
        pages[book] = lib.pagesOf(parts);
        return Integer.bitCount(reach(owner, pages, owner[book])) - before;
    }

    int bind(int r, int what) {
        int most = Integer.MIN_VALUE;
        int which = NONE;
        for (int a = 0; a < lib.books; a++) {
            for (int b = a + 1; b < lib.books; b++) {
                if (owner[a] != r || owner[b] != r) continue;
                int[] both = new int[4];
                for (int k = 0; k < 4; k++) both[k] = lib.parts[a][k] + lib.parts[b][k];
                int[] pages = allPages();
                pages[a] = lib.pagesOf(both);
                int[] who = owner.clone();
                who[b] = 99;
                int pays = Integer.bitCount(reach(who, pages, r)) - Integer.bitCount(reach(r)) + 1;
                if (pays > most) {
                    most = pays;
                    which = 16 * a + b;
                }
            }
        }
        if (which == NONE) return what == 0 ? NONE : 0;
        return what == 0 ? which : most;
    }

    int fire(int many) {
        int shelf = has(NONE);
        int n = Math.min(many, Integer.bitCount(shelf));
        int most = -1;
        int which = NONE;
        for (int set = 0; set < 1 << lib.books; set++) {
            if ((set | shelf) != shelf || Integer.bitCount(set) != n) continue;
            int able = 0;
            for (int r = 0; r < lib.readers; r++) {
                boolean can = false;
                for (int left = 0; left < lib.books; left++) {
                    for (int taken = 0; taken < lib.books; taken++) {
                        can |= (set >> taken & 1) == 1 && judge(owner, r, left, taken) == 0;
                    }
                }
                able += can ? 1 : 0;
            }
            if (able > most) {
                most = able;
                which = set;
            }
        }
        return which;
    }

    int event(int r, int left, int taken) {
        if (events.size() == 8 || !isReader(r) || !isBook(left) || !isBook(taken) || left == taken) return NONE;
        events.add(new int[] {r, left, taken});
        return events.size();
    }

    /* All rows of these EVENTS that can be made; of a book, those in which it is on THE SHELF behind so many. */
    int rows(int set, int book, int many) {
        return rowsFrom(owner.clone(), set, book, many, 0, true);
    }

    private int rowsFrom(int[] who, int set, int book, int many, int made, boolean there) {
        boolean then = there && (book == NONE || made != many || who[book] == NONE);
        if (set == 0) return then ? 1 : 0;
        int sum = 0;
        for (int e = 0; e < events.size(); e++) {
            int[] event = events.get(e);
            if ((set >> e & 1) == 0 || judge(who, event[0], event[1], event[2]) != 0) continue;
            int[] next = who.clone();
            next[event[1]] = NONE;
            next[event[2]] = event[0];
            sum += rowsFrom(next, set & ~(1 << e), book, many, made + 1, then);
        }
        return sum;
    }

    int knot() {
        for (int size = 0; size <= events.size(); size++) {
            for (int set = 0; set < 1 << events.size(); set++) {
                if (Integer.bitCount(set) == size && rows(set, NONE, 0) == 0) return set;
            }
        }
        return NONE;
    }
}
