import java.io.IOException;
import java.nio.file.Files;
import java.nio.file.Path;
import java.util.NoSuchElementException;

/** What the tests share: feeding a text, comparing an answer with what is due, and the closing. */
final class Checks {
    static final String NO_SUCH = "NoSuchElementException";
    static final String ILLEGAL = "IllegalArgumentException";
    static final String NOTHING = "nothing";

    private static final Path DOCUMENT = Path.of("../shared/DOC.md");

    private static int wrong = 0;
    private static int asked = 0;
    private static String document = null;
    private static String heading = "";

    interface Call {
        long answer();
    }

    private Checks() {
    }

    static void due(String call, long got, long want) {
        asked++;
        if (got != want) {
            complain(call + " answered " + got + ", due is " + want);
        }
    }

    private static void complain(String what) {
        wrong++;
        System.out.println(heading + what);
    }

    /** The test of one sentence, which is named by the document's own words. */
    static void sentence(String words, Runnable test) {
        heading = "'" + words + "': ";
        if (!document().contains(words)) {
            complain("the document has no such words");
        }
        int before = asked;
        try {
            test.run();
        } catch (RuntimeException e) {
            complain("ended by " + e);
        }
        if (asked == before) {
            complain("nothing was asked");
        }
        heading = "";
    }

    private static String document() {
        if (document == null) {
            try {
                document = Files.readString(DOCUMENT).replaceAll("\\s+", " ");
            } catch (IOException e) {
                throw new IllegalStateException("the document can't be read", e);
            }
        }
        return document;
    }

    static void dueThrow(String call, String want, Call run) {
        String got = NOTHING;
        try {
            run.answer();
        } catch (NoSuchElementException e) {
            got = NO_SUCH;
        } catch (IllegalArgumentException e) {
            got = ILLEGAL;
        } catch (RuntimeException e) {
            got = e.getClass().getSimpleName();
        }
        asked++;
        if (!got.equals(want)) {
            complain(call + " threw " + got + ", due is " + want);
        }
    }

    /** Puts the text's bytes on the tape, blanks behind it up to a whole row of twenty. */
    static void feed(StoutShelf x, String text) {
        int[] five = new int[5];
        for (int at = 0; at < text.length(); at += 20) {
            for (int i = 0; i < 5; i++) {
                five[i] = 0;
                for (int k = 0; k < 4; k++) {
                    int place = at + 4 * i + k;
                    five[i] = five[i] << 8 | (place < text.length() ? text.charAt(place) & 255 : 32);
                }
            }
            if (x.feed(five[0], five[1], five[2], five[3], five[4]) == StoutShelf.NONE) {
                throw new IllegalStateException("the text is too long for the tape");
            }
        }
    }

    static int tell(StoutShelf x, String text) {
        feed(x, text);
        return x.library(text.length());
    }

    /** The FAULT of a TEXT on a new object, its place, and that nothing of the TEXT stands then. */
    static void faultDue(String text, int fault, int place) {
        StoutShelf x = new StoutShelf();
        due("fault of " + text, tell(x, text), fault);
        due("place in " + text, x.fault(), place);
        due("status of " + text, x.count(6), fault == 0 ? 0 : 1);
        due("books behind " + text, fault == 0 ? 0 : x.count(0), 0);
        due("readers behind " + text, fault == 0 ? 0 : x.count(1), 0);
    }

    static void goodDue(String text) {
        faultDue(text, 0, -1);
    }

    static StoutShelf told(String text) {
        StoutShelf x = new StoutShelf();
        due("library of " + text, tell(x, text), 0);
        return x;
    }

    /** A LIBRARY of BOOKS with these LEAVES, each its owner's. */
    static String library(int readers, int[] leaves, int[] owners) {
        StringBuilder text = new StringBuilder();
        for (int r = 0; r < readers; r++) {
            text.append("reader;");
        }
        for (int b = 0; b < leaves.length; b++) {
            text.append("book ").append(leaves[b]).append(owners[b] < 0 ? "" : " of " + owners[b]).append(";");
        }
        return text.toString();
    }

    static void end() {
        System.out.println(asked + " answers, " + wrong + " wrong");
        if (wrong != 0) {
            System.exit(1);
        }
    }
}
