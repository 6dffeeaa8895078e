import java.util.Arrays;
import java.util.NoSuchElementException;

/**
 * A library from which nothing may be taken but by leaving a book with more pages.
 *
 * Books that somebody has, or THE SHELF, are sets of bits everywhere: bit n is BOOK n.
 */
public final class StoutShelf {
    public static final int NONE = -1;

    private static final int SPENT = -2;

    private static final int MOST_BOOKS = 12;
    private static final int MOST_READERS = 5;
    private static final int MOST_BYTES = 700;
    private static final int BYTES_FED = 20;
    private static final int MOST_MOVES = 200;
    private static final int MOST_EVENTS = 8;

    private static final int SHELF = MOST_READERS;
    private static final int PLACES = MOST_READERS + 1;

    private static final int NO_SUCH = 1;
    private static final int HAS_NOT = 2;
    private static final int NOT_THERE = 3;
    private static final int TOO_MANY_PAGES = 4;
    private static final int TOO_MANY_MOVES = 5;

    private final Text text = new Text();
    private final Told draft = new Told();
    private final Told told = new Told();
    private final Reading reading = new Reading(text, draft);
    private final Standing now = new Standing();
    private final Standing kept = new Standing();
    private final Week weeks = new Week(told);
    private final Pair pair = new Pair(told);
    private final Catalogue catalogue = new Catalogue(told, now);
    private final int[] takeable = new int[MOST_READERS];
    private boolean imaged;
    private int faultPlace = NONE;
    private int textsRefused;
    private int movesRefused;
    private int eventsRefused;

    public StoutShelf() {
    }

    public int feed(int a, int b, int c, int d, int e) {
        if (text.size > MOST_BYTES - BYTES_FED) {
            return NONE;
        }
        text.put(a);
        text.put(b);
        text.put(c);
        text.put(d);
        text.put(e);
        return text.size;
    }

    public int library(int n) throws IllegalArgumentException {
        if (n < 0 || n > text.size) {
            throw new IllegalArgumentException("the tape has not so many bytes");
        }
        int found = reading.readAll(n);
        text.size = 0;
        faultPlace = reading.place;
        if (found != 0) {
            textsRefused++;
            return found;
        }
        told.take(draft);
        told.reckon();
        now.begin(told.first);
        weeks.keptCount = NONE;
        imaged = false;
        return 0;
    }

    public int fault() {
        return faultPlace;
    }

    public int count(int what) throws NoSuchElementException {
        switch (what) {
            case 0: return told.books;
            case 1: return told.readers;
            case 2: return told.pagesTogether(now.sets[SHELF]);
            case 3: return now.moveCount;
            case 4: return now.eventCount;
            case 5: return text.size;
            case 6: return textsRefused;
            case 7: return movesRefused;
            case 8: return eventsRefused;
            default: throw new NoSuchElementException("no such count");
        }
    }

    public int book(int book, int what) throws NoSuchElementException {
        needBook(book);
        needWhat(what, 6);
        if (what < Told.PARTS) {
            return told.parts[Told.PARTS * book + what];
        }
        return what == Told.PARTS ? told.pages[book] : placeOf(now.sets, book);
    }

    public int reader(int reader, int what) throws NoSuchElementException {
        needReader(reader);
        needWhat(what, 3);
        if (what == 0) {
            return told.wants[reader];
        }
        if (what == 1) {
            return now.sets[reader];
        }
        return told.isServed(now.sets, reader) ? 1 : 0;
    }

    public int exchange(int reader, int left, int taken) {
        return settle(judge(reader, left, taken), reader, left, taken, NONE);
    }

    public int swap(int reader, int given, int other, int got) {
        return settle(troubleOfSwap(reader, given, other, got), reader, given, got, other);
    }

    public int judge(int reader, int left, int taken) {
        if (!isReader(reader) || !isBook(left) || !isBook(taken)) {
            return NO_SUCH;
        }
        return told.troubleOf(now.sets, reader, left, taken);
    }

    public int undo() {
        if (now.moveCount == 0) {
            return NONE;
        }
        now.takeBackMove();
        return now.moveCount;
    }

    public int move(int move, int what) throws NoSuchElementException {
        needWhat(what, Standing.MOVE_SIZE);
        if (move < 0 || move >= now.moveCount) {
            throw new NoSuchElementException("no such move");
        }
        return now.moves[Standing.MOVE_SIZE * move + what];
    }

    public int reach(int reader) throws NoSuchElementException {
        needReader(reader);
        return reachNow(reader);
    }

    /* A BOOK come to over others has fewer PAGES than the first one left: one EXCHANGE does as well. */
    public int way(int reader, int book) throws NoSuchElementException {
        needReader(reader);
        needBook(book);
        if (holds(now.sets[reader], book)) {
            return 0;
        }
        return holds(reachNow(reader), book) ? 1 : NONE;
    }

    public int together(int reader, int friend, int book)
            throws NoSuchElementException, IllegalArgumentException {
        needReader(reader);
        needReader(friend);
        needBook(book);
        if (reader == friend) {
            throw new IllegalArgumentException("a friend is another reader");
        }
        return pair.fewestMoves(now.sets[reader], now.sets[friend], now.sets[SHELF], book);
    }

    public int week() {
        return weeks.plan(now.sets);
    }

    public int row(int i, int what) throws NoSuchElementException {
        if (weeks.keptCount == NONE) {
            throw new NoSuchElementException("no row is kept");
        }
        if (i == NONE) {
            return weeks.keptCount;
        }
        needWhat(what, Week.SIZE);
        if (i < 0 || i >= weeks.keptCount) {
            throw new NoSuchElementException("no such exchange in the row");
        }
        return weeks.kept[Week.SIZE * i + what];
    }

    public int lost(int book, int what) throws NoSuchElementException {
        needBook(book);
        needWhat(what, 2);
        if (!isLost(book)) {
            return what == 0 ? 0 : NONE;
        }
        for (int more = 1; more <= Told.MOST_OF_A_PART; more++) {
            int freeing = freedBy(book, more);
            if (freeing != NONE) {
                return what == 0 ? more : freeing;
            }
        }
        return NONE;
    }

    public int worth(int book) throws NoSuchElementException, IllegalArgumentException {
        needBook(book);
        int owner = placeOf(now.sets, book);
        if (owner < 0 || owner >= MOST_READERS) {
            throw new IllegalArgumentException("no reader has the book");
        }
        int has = now.sets[owner];
        int then = reachIf(has, book, told.pagesWithMore(book, 1));
        return Integer.bitCount(then) - Integer.bitCount(reachNow(owner));
    }

    public int bind(int reader, int what) throws NoSuchElementException {
        needReader(reader);
        needWhat(what, 2);
        int best = NONE;
        int most = 0;
        for (int a = 0; a < told.books; a++) {
            for (int b = a + 1; b < told.books; b++) {
                if (holds(now.sets[reader], a) && holds(now.sets[reader], b)) {
                    int pays = bindingPays(reader, a, b);
                    if (best == NONE || pays > most) {
                        best = 16 * a + b;
                        most = pays;
                    }
                }
            }
        }
        return what == 0 ? best : most;
    }

    public int fire(int many) throws IllegalArgumentException {
        if (many < 0 || many > MOST_BOOKS) {
            throw new IllegalArgumentException("a fire leaves 0 to 12 books");
        }
        int shelf = now.sets[SHELF];
        int left = Math.min(many, Integer.bitCount(shelf));
        for (int reader = 0; reader < told.readers; reader++) {
            takeable[reader] = told.takeableFor(now.sets[reader]);
        }
        int best = 0;
        int most = NONE;
        for (int set = 0; set <= shelf; set++) {
            if ((set & ~shelf) == 0 && Integer.bitCount(set) == left) {
                int able = readersAbleWith(set);
                if (able > most) {
                    most = able;
                    best = set;
                }
            }
        }
        return best;
    }

    public int event(int reader, int left, int taken) {
        boolean known = isReader(reader) && isBook(left) && isBook(taken);
        if (!known || left == taken || now.eventCount >= MOST_EVENTS) {
            eventsRefused++;
            return NONE;
        }
        now.writeEvent(reader, left, taken);
        return now.eventCount;
    }

    public int forget() {
        if (now.eventCount == 0) {
            return NONE;
        }
        now.eventCount--;
        return now.eventCount;
    }

    public int orders() {
        return catalogue.ordersOfAll();
    }

    public int there(int book, int many) throws NoSuchElementException, IllegalArgumentException {
        needBook(book);
        if (many < 0 || many > now.eventCount) {
            throw new IllegalArgumentException("there are not so many events");
        }
        return catalogue.ordersWith(book, many);
    }

    public int knot() {
        return catalogue.smallestKnot();
    }

    public int hands(int book, int i) throws NoSuchElementException {
        needBook(book);
        if (i == NONE) {
            return 1 + now.changesOf(book);
        }
        if (i < 0 || i > now.changesOf(book)) {
            throw new NoSuchElementException("it went through fewer hands");
        }
        return i == 0 ? placeOf(told.first, book) : now.placeAfterChange(book, i);
    }

    public void image() {
        kept.take(now);
        imaged = true;
    }

    public boolean restore() {
        if (imaged) {
            now.take(kept);
        }
        return imaged;
    }

    private boolean isBook(int book) {
        return book >= 0 && book < told.books;
    }

    private boolean isReader(int reader) {
        return reader >= 0 && reader < told.readers;
    }

    private void needBook(int book) {
        if (!isBook(book)) {
            throw new NoSuchElementException("no such book");
        }
    }

    private void needReader(int reader) {
        if (!isReader(reader)) {
            throw new NoSuchElementException("no such reader");
        }
    }

    private static void needWhat(int what, int kinds) {
        if (what < 0 || what >= kinds) {
            throw new NoSuchElementException("no such what");
        }
    }

    private int troubleOfSwap(int reader, int given, int other, int got) {
        if (!isReader(reader) || !isReader(other) || !isBook(given) || !isBook(got) || reader == other) {
            return NO_SUCH;
        }
        if (!holds(now.sets[reader], given)) {
            return HAS_NOT;
        }
        return holds(now.sets[other], got) ? 0 : NOT_THERE;
    }

    /* That the MOVES are full is the greatest TROUBLE, so it is asked last. */
    private int settle(int trouble, int reader, int left, int taken, int other) {
        int found = trouble;
        if (found == 0 && now.moveCount >= MOST_MOVES) {
            found = TOO_MANY_MOVES;
        }
        if (found == 0) {
            now.writeMove(reader, left, taken, other);
        } else {
            movesRefused++;
        }
        return found;
    }

    private int reachNow(int reader) {
        int has = now.sets[reader];
        return has | told.takeableFor(has) & now.sets[SHELF];
    }

    /* REACH of one who has these BOOKS, one of which had so many PAGES instead of its own. */
    private int reachIf(int has, int changed, int pages) {
        int takeableNow = told.takeableFor(has & ~(1 << changed)) | told.booksUnder(pages);
        return has | takeableNow & now.sets[SHELF];
    }

    private int bindingPays(int reader, int a, int b) {
        int has = now.sets[reader] & ~(1 << b);
        int then = reachIf(has, a, told.pagesBound(a, b));
        return Integer.bitCount(then) - Integer.bitCount(reachNow(reader)) + 1;
    }

    private boolean isLost(int book) {
        if (!holds(now.sets[SHELF], book)) {
            return false;
        }
        for (int reader = 0; reader < told.readers; reader++) {
            if (holds(told.takeableFor(now.sets[reader]), book)) {
                return false;
            }
        }
        return true;
    }

    /* The least BOOK of a READER that would have more PAGES than a LOST one with so many BLANKS more. */
    private int freedBy(int lost, int more) {
        for (int b = 0; b < told.books; b++) {
            if (!holds(now.sets[SHELF], b) && told.pagesWithMore(b, more) > told.pages[lost]) {
                return b;
            }
        }
        return NONE;
    }

    private int readersAbleWith(int shelf) {
        int able = 0;
        for (int reader = 0; reader < told.readers; reader++) {
            if ((takeable[reader] & shelf) != 0) {
                able++;
            }
        }
        return able;
    }

    private static boolean holds(int set, int book) {
        return (set >> book & 1) != 0;
    }

    private static int placeOf(int[] sets, int book) {
        for (int reader = 0; reader < MOST_READERS; reader++) {
            if (holds(sets[reader], book)) {
                return reader;
            }
        }
        return NONE;
    }

    /* Two places give one another a BOOK; done twice it is undone, and the order of several is all one. */
    private static void trade(int[] sets, int place, int other, int left, int taken) {
        int both = 1 << left | 1 << taken;
        sets[place] ^= both;
        sets[other] ^= both;
    }

    /** The tape, and the TOKENS of the text that is read from it. */
    private static final class Text {
        static final int END = 0;
        static final int WORD = 1;
        static final int NUMBER = 2;
        /* Also a byte that is no TOKEN: no sign that is asked for, it can stand nowhere. */
        static final int SIGN = 3;
        static final int MOST_DIGITS = 4;

        final byte[] bytes = new byte[MOST_BYTES];
        int size;
        int kind;
        int from;
        /* NONE, if it has too many digits. */
        int number;
        private int to;
        private int length;

        void put(int word) {
            if (size > MOST_BYTES - 4) {
                return;
            }
            bytes[size] = (byte) (word >>> 24);
            bytes[size + 1] = (byte) (word >>> 16);
            bytes[size + 2] = (byte) (word >>> 8);
            bytes[size + 3] = (byte) word;
            size += 4;
        }

        void begin(int n) {
            length = n;
            to = 0;
            next();
        }

        void next() {
            from = to;
            while (from < length && isBlank(at(from))) {
                from++;
            }
            int c = at(from);
            to = Math.min(from + 1, length);
            if (c == NONE) {
                kind = END;
            } else if (isLetter(c)) {
                kind = WORD;
                while (to < length && isLetter(at(to))) {
                    to++;
                }
            } else if (isDigit(c)) {
                kind = NUMBER;
                number = c - '0';
                while (to < length && isDigit(at(to))) {
                    boolean fits = number != NONE && to - from < MOST_DIGITS;
                    number = fits ? 10 * number + at(to) - '0' : NONE;
                    to++;
                }
            } else {
                kind = SIGN;
            }
        }

        boolean isWord(String word) {
            if (kind != WORD || to - from != word.length()) {
                return false;
            }
            for (int i = 0; i < word.length(); i++) {
                if (at(from + i) != word.charAt(i)) {
                    return false;
                }
            }
            return true;
        }

        boolean isSign(char sign) {
            return kind == SIGN && at(from) == sign;
        }

        private int at(int i) {
            return i >= 0 && i < length && i < MOST_BYTES ? bytes[i] & 255 : NONE;
        }

        private static boolean isBlank(int c) {
            return c == 32 || c == 10;
        }

        private static boolean isLetter(int c) {
            return c >= 'a' && c <= 'z';
        }

        private static boolean isDigit(int c) {
            return c >= '0' && c <= '9';
        }
    }

    /** How PAGES are reckoned: the EXPR with each operator behind what it works on; NUMBERS are themselves. */
    private static final class Law {
        static final int LEAVES = -1;
        static final int BLANKS = -2;
        static final int PLATES = -3;
        static final int TORN = -4;
        static final int OR = -5;
        static final int AND = -6;
        static final int NOT = -7;
        static final int LESS = -8;
        static final int SAME = -9;
        static final int PLUS = -10;
        static final int MINUS = -11;
        static final int TIMES = -12;
        static final int BY = -13;
        static final int IF = -14;
        /* Each of 6 EXPRS that stand open keeps at most 7 values waiting. */
        static final int STACK = 64;

        private final int[] code = new int[MOST_BYTES];
        private int size;
        private final int[] stack = new int[STACK];
        private int top;

        void clear() {
            size = 0;
        }

        void add(int step) {
            if (size < MOST_BYTES) {
                code[size] = step;
                size++;
            }
        }

        void take(Law other) {
            size = other.size;
            System.arraycopy(other.code, 0, code, 0, MOST_BYTES);
        }

        int reckon(int leaves, int blanks, int plates, int torn) {
            top = 0;
            for (int i = 0; i < size; i++) {
                int step = code[i];
                switch (step) {
                    case LEAVES: push(leaves); break;
                    case BLANKS: push(blanks); break;
                    case PLATES: push(plates); break;
                    case TORN: push(torn); break;
                    case NOT: turn(); break;
                    case IF: choose(); break;
                    default:
                        if (step >= 0) {
                            push(step);
                        } else {
                            work(step);
                        }
                }
            }
            return top > 0 ? stack[top - 1] : 0;
        }

        private void push(int value) {
            if (top < STACK) {
                stack[top] = value;
                top++;
            }
        }

        private void turn() {
            if (top >= 1) {
                stack[top - 1] = bit(stack[top - 1] == 0);
            }
        }

        private void choose() {
            if (top >= 3) {
                top -= 2;
                stack[top - 1] = stack[top - 1] != 0 ? stack[top] : stack[top + 1];
            }
        }

        private void work(int step) {
            if (top >= 2) {
                top--;
                stack[top - 1] = join(step, stack[top - 1], stack[top]);
            }
        }

        private static int join(int step, int left, int right) {
            switch (step) {
                case OR: return bit(left != 0 || right != 0);
                case AND: return bit(left != 0 && right != 0);
                case LESS: return bit(left < right);
                case SAME: return bit(left == right);
                case PLUS: return left + right;
                case MINUS: return left - right;
                case TIMES: return left * right;
                default: return right == 0 ? 0 : left / right;
            }
        }

        private static int bit(boolean holds) {
            return holds ? 1 : 0;
        }
    }

    /** A LIBRARY as its TEXT tells it. */
    private static final class Told {
        /* LEAVES, BLANKS, PLATES, TORN. */
        static final int PARTS = 4;
        static final int MOST_OF_A_PART = 99;

        int books;
        int readers;
        boolean lawTold;
        final Law law = new Law();
        final int[] parts = new int[PARTS * MOST_BOOKS];
        final int[] wants = new int[MOST_READERS];
        final int[] first = new int[PLACES];
        final int[] pages = new int[MOST_BOOKS];
        /* Of each BOOK the BOOKS that have fewer PAGES. */
        final int[] fewer = new int[MOST_BOOKS];

        void clear() {
            books = 0;
            readers = 0;
            lawTold = false;
            law.clear();
            law.add(Law.LEAVES);
            Arrays.fill(parts, 0);
            Arrays.fill(wants, NONE);
            Arrays.fill(first, 0);
        }

        void take(Told other) {
            books = other.books;
            readers = other.readers;
            law.take(other.law);
            System.arraycopy(other.parts, 0, parts, 0, PARTS * MOST_BOOKS);
            System.arraycopy(other.wants, 0, wants, 0, MOST_READERS);
            System.arraycopy(other.first, 0, first, 0, PLACES);
        }

        void reckon() {
            for (int b = 0; b < books; b++) {
                pages[b] = pagesWithMore(b, 0);
            }
            for (int b = 0; b < books; b++) {
                fewer[b] = booksUnder(pages[b]);
            }
        }

        int pagesWithMore(int b, int moreBlanks) {
            int at = PARTS * b;
            return law.reckon(parts[at], parts[at + 1] + moreBlanks, parts[at + 2], parts[at + 3]);
        }

        int pagesBound(int a, int b) {
            int p = PARTS * a;
            int q = PARTS * b;
            return law.reckon(parts[p] + parts[q], parts[p + 1] + parts[q + 1],
                    parts[p + 2] + parts[q + 2], parts[p + 3] + parts[q + 3]);
        }

        int pagesTogether(int set) {
            int sum = 0;
            for (int b = 0; b < books; b++) {
                if (holds(set, b)) {
                    sum += pages[b];
                }
            }
            return sum;
        }

        int booksUnder(int limit) {
            int set = 0;
            for (int b = 0; b < books; b++) {
                if (pages[b] < limit) {
                    set |= 1 << b;
                }
            }
            return set;
        }

        /* All BOOKS that one of these could be left for, wherever they are. */
        int takeableFor(int has) {
            int set = 0;
            for (int b = 0; b < books; b++) {
                if (holds(has, b)) {
                    set |= fewer[b];
                }
            }
            return set;
        }

        int troubleOf(int[] sets, int reader, int left, int taken) {
            if (!holds(sets[reader], left)) {
                return HAS_NOT;
            }
            if (!holds(sets[SHELF], taken)) {
                return NOT_THERE;
            }
            return holds(fewer[left], taken) ? 0 : TOO_MANY_PAGES;
        }

        boolean isServed(int[] sets, int reader) {
            return wants[reader] != NONE && holds(sets[reader], wants[reader]);
        }
    }

    /** Reads a TEXT into a draft of a LIBRARY, up to the first FAULT. */
    private static final class Reading {
        static final int CANNOT_STAND = 1;
        static final int TOO_MUCH = 2;
        static final int UNKNOWN = 3;
        static final int TWICE = 4;

        static final int DEEPEST = 5;
        static final int MOST_NOTS = 6;

        /* The levels of an EXPR, what binds least first. */
        static final int ORS = 0;
        static final int ANDS = 1;
        static final int TESTS = 2;
        static final int SUMS = 3;
        static final int PRODUCTS = 4;
        static final int SINGLE = 5;

        private final Text text;
        private final Told draft;
        private int found;
        int place = NONE;

        Reading(Text text, Told draft) {
            this.text = text;
            this.draft = draft;
        }

        int readAll(int n) {
            found = 0;
            place = NONE;
            draft.clear();
            text.begin(n);
            boolean right = true;
            for (int line = 0; line < MOST_BYTES && right && text.kind != Text.END; line++) {
                right = (text.isWord("reader") ? readReader()
                        : text.isWord("book") ? readBook()
                        : text.isWord("wants") ? readWants()
                        : text.isWord("law") ? readLaw()
                        : refuse(CANNOT_STAND)) && needSign(';');
            }
            return found;
        }

        private boolean refuse(int fault) {
            found = fault;
            place = text.from;
            return false;
        }

        private boolean readReader() {
            if (draft.readers >= MOST_READERS) {
                return refuse(TOO_MUCH);
            }
            draft.readers++;
            text.next();
            return true;
        }

        private boolean readBook() {
            int book = draft.books;
            if (book >= MOST_BOOKS) {
                return refuse(TOO_MUCH);
            }
            text.next();
            int at = Told.PARTS * book;
            boolean right = readPart(at, 1)
                    && readPerhaps("blanks", at + 1)
                    && readPerhaps("plates", at + 2)
                    && readPerhaps("torn", at + 3)
                    && readOwner(book);
            draft.books++;
            return right;
        }

        private boolean readPart(int at, int least) {
            if (!needNumber()) {
                return false;
            }
            if (text.number < least || text.number > Told.MOST_OF_A_PART) {
                return refuse(TOO_MUCH);
            }
            draft.parts[at] = text.number;
            text.next();
            return true;
        }

        private boolean readPerhaps(String word, int at) {
            if (!text.isWord(word)) {
                return true;
            }
            text.next();
            return readPart(at, 0);
        }

        private boolean readOwner(int book) {
            int owner = SHELF;
            if (text.isWord("of")) {
                text.next();
                if (!needToldAhead(draft.readers)) {
                    return false;
                }
                owner = text.number;
                text.next();
            }
            draft.first[owner] |= 1 << book;
            return true;
        }

        private boolean readWants() {
            text.next();
            if (!needToldAhead(draft.readers)) {
                return false;
            }
            int reader = text.number;
            if (draft.wants[reader] != NONE) {
                return refuse(TWICE);
            }
            text.next();
            if (!needToldAhead(draft.books)) {
                return false;
            }
            draft.wants[reader] = text.number;
            text.next();
            return true;
        }

        private boolean readLaw() {
            if (draft.lawTold) {
                return refuse(TWICE);
            }
            draft.lawTold = true;
            draft.law.clear();
            text.next();
            return readExpr(0);
        }

        private boolean readExpr(int depth) {
            if (depth > DEEPEST) {
                boolean could = text.kind == Text.NUMBER || text.kind == Text.WORD || text.isSign('(');
                return refuse(could ? TOO_MUCH : CANNOT_STAND);
            }
            return readLevel(ORS, depth);
        }

        private boolean readLevel(int level, int depth) {
            if (level == TESTS) {
                return readTest(depth);
            }
            if (level >= SINGLE) {
                return readSingle(depth);
            }
            boolean right = readLevel(level + 1, depth);
            for (int i = 0; i < MOST_BYTES && right; i++) {
                int step = operatorOf(level);
                if (step == 0) {
                    break;
                }
                text.next();
                right = readLevel(level + 1, depth);
                draft.law.add(step);
            }
            return right;
        }

        private int operatorOf(int level) {
            switch (level) {
                case ORS: return text.isWord("or") ? Law.OR : 0;
                case ANDS: return text.isWord("and") ? Law.AND : 0;
                case TESTS: return text.isSign('<') ? Law.LESS : text.isSign('=') ? Law.SAME : 0;
                case SUMS: return text.isSign('+') ? Law.PLUS : text.isSign('-') ? Law.MINUS : 0;
                default: return text.isSign('*') ? Law.TIMES : text.isSign('/') ? Law.BY : 0;
            }
        }

        private boolean readTest(int depth) {
            int nots = 0;
            while (nots < MOST_NOTS && text.isWord("not")) {
                nots++;
                text.next();
            }
            if (text.isWord("not")) {
                return refuse(TOO_MUCH);
            }
            boolean right = readLevel(SUMS, depth);
            int step = right ? operatorOf(TESTS) : 0;
            if (step != 0) {
                text.next();
                right = readLevel(SUMS, depth);
                draft.law.add(step);
            }
            for (int i = 0; i < nots; i++) {
                draft.law.add(Law.NOT);
            }
            return right;
        }

        private boolean readSingle(int depth) {
            if (text.isSign('(')) {
                text.next();
                return readExpr(depth + 1) && needSign(')');
            }
            if (text.isWord("if")) {
                return readIf(depth);
            }
            if (text.kind == Text.WORD) {
                return readValue();
            }
            if (!needNumber()) {
                return false;
            }
            draft.law.add(text.number);
            text.next();
            return true;
        }

        private boolean readIf(int depth) {
            text.next();
            boolean right = readExpr(depth + 1) && needWord("then")
                    && readExpr(depth + 1) && needWord("else")
                    && readExpr(depth + 1) && needWord("end");
            draft.law.add(Law.IF);
            return right;
        }

        private boolean readValue() {
            int step = text.isWord("leaves") ? Law.LEAVES
                    : text.isWord("blanks") ? Law.BLANKS
                    : text.isWord("plates") ? Law.PLATES
                    : text.isWord("torn") ? Law.TORN : 0;
            if (step == 0) {
                return refuse(UNKNOWN);
            }
            draft.law.add(step);
            text.next();
            return true;
        }

        private boolean needNumber() {
            if (text.kind != Text.NUMBER) {
                return refuse(CANNOT_STAND);
            }
            return text.number != NONE || refuse(TOO_MUCH);
        }

        private boolean needToldAhead(int many) {
            if (!needNumber()) {
                return false;
            }
            return text.number < many || refuse(UNKNOWN);
        }

        private boolean needSign(char sign) {
            if (!text.isSign(sign)) {
                return refuse(CANNOT_STAND);
            }
            text.next();
            return true;
        }

        private boolean needWord(String word) {
            if (!text.isWord(word)) {
                return refuse(CANNOT_STAND);
            }
            text.next();
            return true;
        }
    }

    /** Who has what, the MOVES that led there, and the EVENTS: what an image keeps. */
    private static final class Standing {
        /* The READER, the BOOK left or given, the BOOK taken or got, the other READER or NONE. */
        static final int MOVE_SIZE = 4;
        /* The READER, the BOOK left, the BOOK taken. */
        static final int EVENT_SIZE = 3;

        final int[] sets = new int[PLACES];
        final int[] moves = new int[MOVE_SIZE * MOST_MOVES];
        int moveCount;
        final int[] events = new int[EVENT_SIZE * MOST_EVENTS];
        int eventCount;

        void begin(int[] first) {
            System.arraycopy(first, 0, sets, 0, PLACES);
            moveCount = 0;
            eventCount = 0;
        }

        void take(Standing other) {
            System.arraycopy(other.sets, 0, sets, 0, PLACES);
            System.arraycopy(other.moves, 0, moves, 0, MOVE_SIZE * MOST_MOVES);
            System.arraycopy(other.events, 0, events, 0, EVENT_SIZE * MOST_EVENTS);
            moveCount = other.moveCount;
            eventCount = other.eventCount;
        }

        void writeMove(int reader, int left, int taken, int other) {
            int at = MOVE_SIZE * moveCount;
            moves[at] = reader;
            moves[at + 1] = left;
            moves[at + 2] = taken;
            moves[at + 3] = other;
            moveCount++;
            tradeMove(at);
        }

        void takeBackMove() {
            moveCount--;
            tradeMove(MOVE_SIZE * moveCount);
        }

        private void tradeMove(int at) {
            int other = moves[at + 3];
            trade(sets, moves[at], other == NONE ? SHELF : other, moves[at + 1], moves[at + 2]);
        }

        void writeEvent(int reader, int left, int taken) {
            int at = EVENT_SIZE * eventCount;
            events[at] = reader;
            events[at + 1] = left;
            events[at + 2] = taken;
            eventCount++;
        }

        int changesOf(int book) {
            int changes = 0;
            for (int i = 0; i < moveCount; i++) {
                if (isMoved(book, i)) {
                    changes++;
                }
            }
            return changes;
        }

        int placeAfterChange(int book, int change) {
            int changes = 0;
            for (int i = 0; i < moveCount; i++) {
                if (isMoved(book, i)) {
                    changes++;
                    if (changes == change) {
                        int at = MOVE_SIZE * i;
                        return moves[at + 1] == book ? moves[at + 3] : moves[at];
                    }
                }
            }
            return NONE;
        }

        private boolean isMoved(int book, int move) {
            int at = MOVE_SIZE * move;
            return moves[at + 1] == book || moves[at + 2] == book;
        }
    }

    /** The search for the row of a WEEK by which most are SERVED. */
    private static final class Week {
        static final int MOST_TRIES = 20000;
        /* The READER, the BOOK left, the BOOK taken. */
        static final int SIZE = 3;

        private final Told told;
        private final int[] sets = new int[PLACES];
        private final int[] tried = new int[SIZE * MOST_READERS];
        private final int[] best = new int[SIZE * MOST_READERS];
        private int bestCount;
        private int bestServed;
        private int tries;
        final int[] kept = new int[SIZE * MOST_READERS];
        int keptCount = NONE;

        Week(Told told) {
            this.told = told;
        }

        int plan(int[] from) {
            System.arraycopy(from, 0, sets, 0, PLACES);
            tries = 0;
            bestServed = NONE;
            tryPlace(0, 0);
            if (tries > MOST_TRIES) {
                return SPENT;
            }
            System.arraycopy(best, 0, kept, 0, SIZE * MOST_READERS);
            keptCount = bestCount;
            return bestServed;
        }

        private void tryPlace(int place, int gone) {
            weigh(place);
            if (place >= MOST_READERS) {
                return;
            }
            for (int reader = 0; reader < told.readers; reader++) {
                if ((gone >> reader & 1) == 0) {
                    tryReader(place, gone | 1 << reader, reader);
                }
            }
        }

        private void tryReader(int place, int gone, int reader) {
            int has = sets[reader];
            int shelf = sets[SHELF];
            for (int left = 0; left < told.books && tries <= MOST_TRIES; left++) {
                int takeable = holds(has, left) ? told.fewer[left] & shelf : 0;
                for (int taken = 0; taken < told.books && takeable != 0; taken++) {
                    if (holds(takeable, taken)) {
                        tryExchange(place, gone, reader, left, taken);
                    }
                }
            }
        }

        private void tryExchange(int place, int gone, int reader, int left, int taken) {
            tries++;
            if (tries > MOST_TRIES) {
                return;
            }
            int at = SIZE * place;
            tried[at] = reader;
            tried[at + 1] = left;
            tried[at + 2] = taken;
            trade(sets, reader, SHELF, left, taken);
            tryPlace(place + 1, gone);
            trade(sets, reader, SHELF, left, taken);
        }

        private void weigh(int count) {
            int served = 0;
            for (int reader = 0; reader < told.readers; reader++) {
                if (told.isServed(sets, reader)) {
                    served++;
                }
            }
            if (served > bestServed) {
                bestServed = served;
                bestCount = count;
                System.arraycopy(tried, 0, best, 0, SIZE * MOST_READERS);
            }
        }
    }

    /** The search for what a READER can come to TOGETHER with a FRIEND, the states in order of their MOVES. */
    private static final class Pair {
        static final int MOST_STATES = 4000;
        static final int TABLE_BITS = 13;
        static final int TABLE = 1 << TABLE_BITS;
        static final int SCATTER = 0x9E3779B1;
        static final int ALL = (1 << MOST_BOOKS) - 1;

        private final Told told;
        /* What the READER has in the low bits, what the FRIEND has above. */
        private final int[] states = new int[MOST_STATES];
        private final int[] table = new int[TABLE];
        private int count;
        private boolean spent;

        Pair(Told told) {
            this.told = told;
        }

        int fewestMoves(int mine, int theirs, int shelf, int book) {
            int all = mine | theirs | shelf;
            Arrays.fill(table, NONE);
            count = 0;
            spent = false;
            meet(mine, theirs);
            int answer = NONE;
            int done = 0;
            for (int moves = 0; moves < MOST_STATES && done < count; moves++) {
                int end = count;
                for (; done < end && !spent; done++) {
                    int state = states[done];
                    if (answer == NONE && holds(state, book)) {
                        answer = moves;
                    }
                    goOn(state & ALL, state >> MOST_BOOKS, all);
                }
                if (spent) {
                    return SPENT;
                }
            }
            return answer;
        }

        private void goOn(int mine, int theirs, int all) {
            int shelf = all & ~mine & ~theirs;
            for (int b = 0; b < told.books && !spent; b++) {
                int takeable = told.fewer[b] & shelf;
                if (holds(mine, b)) {
                    tradeForEach(mine, theirs, 1 << b, takeable, ALL, 0);
                    tradeForEach(mine, theirs, 1 << b, theirs, ALL, ALL);
                } else if (holds(theirs, b)) {
                    tradeForEach(mine, theirs, 1 << b, takeable, 0, ALL);
                }
            }
        }

        /* One BOOK for each of those; of whom takes no part, none changes. */
        private void tradeForEach(int mine, int theirs, int left, int those, int mineChange, int theirsChange) {
            int rest = those;
            for (int n = Integer.bitCount(those); n > 0; n--) {
                int taken = rest & -rest;
                rest ^= taken;
                int both = left | taken;
                meet(mine ^ both & mineChange, theirs ^ both & theirsChange);
            }
        }

        private void meet(int mine, int theirs) {
            int state = mine | theirs << MOST_BOOKS;
            int at = (state * SCATTER) >>> (32 - TABLE_BITS);
            for (int probe = 0; probe < TABLE; probe++) {
                int seen = table[at];
                if (seen == state) {
                    return;
                }
                if (seen == NONE) {
                    meetNew(state, at);
                    return;
                }
                at = (at + 1) & (TABLE - 1);
            }
        }

        private void meetNew(int state, int at) {
            if (count >= MOST_STATES) {
                spent = true;
                return;
            }
            table[at] = state;
            states[count] = state;
            count++;
        }
    }

    /** The ORDERS of all sets of EVENTS; who has what behind a set is the same in every order. */
    private static final class Catalogue {
        private final Told told;
        private final Standing now;
        private final int[] sets = new int[PLACES];
        /* Of each set of EVENTS the orders in which just they can be made, from now on. */
        private final int[] before = new int[1 << MOST_EVENTS];
        /* Of each set the orders in which all others can be made behind it. */
        private final int[] behind = new int[1 << MOST_EVENTS];

        Catalogue(Told told, Standing now) {
            this.told = told;
            this.now = now;
        }

        int ordersOfAll() {
            int all = allEvents();
            reckonBefore(all);
            return before[all];
        }

        int ordersWith(int book, int many) {
            int all = allEvents();
            reckonBefore(all);
            reckonBehind(all);
            int sum = 0;
            for (int set = 0; set <= all; set++) {
                if (Integer.bitCount(set) == many) {
                    goTo(set);
                    sum += holds(sets[SHELF], book) ? before[set] * behind[set] : 0;
                }
            }
            return sum;
        }

        int smallestKnot() {
            int all = allEvents();
            reckonBefore(all);
            int knot = NONE;
            for (int set = 0; set <= all; set++) {
                boolean smaller = knot == NONE || Integer.bitCount(set) < Integer.bitCount(knot);
                if (before[set] == 0 && smaller) {
                    knot = set;
                }
            }
            return knot;
        }

        private int allEvents() {
            return (1 << now.eventCount) - 1;
        }

        private void reckonBefore(int all) {
            Arrays.fill(before, 0);
            before[0] = 1;
            for (int set = 0; set < all; set++) {
                if (before[set] != 0) {
                    goTo(set);
                    for (int event = 0; event < now.eventCount; event++) {
                        if (canFollow(set, event)) {
                            before[set | 1 << event] += before[set];
                        }
                    }
                }
            }
        }

        private void reckonBehind(int all) {
            Arrays.fill(behind, 0);
            behind[all] = 1;
            for (int set = all - 1; set >= 0; set--) {
                goTo(set);
                for (int event = 0; event < now.eventCount; event++) {
                    if (canFollow(set, event)) {
                        behind[set] += behind[set | 1 << event];
                    }
                }
            }
        }

        private void goTo(int set) {
            System.arraycopy(now.sets, 0, sets, 0, PLACES);
            for (int event = 0; event < now.eventCount; event++) {
                if ((set >> event & 1) != 0) {
                    int at = Standing.EVENT_SIZE * event;
                    trade(sets, now.events[at], SHELF, now.events[at + 1], now.events[at + 2]);
                }
            }
        }

        private boolean canFollow(int set, int event) {
            int at = Standing.EVENT_SIZE * event;
            return (set >> event & 1) == 0
                    && told.troubleOf(sets, now.events[at], now.events[at + 1], now.events[at + 2]) == 0;
        }
    }
}
