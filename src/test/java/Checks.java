import java.util.NoSuchElementException;

/** What the tests share: feeding a text, comparing an answer with what is due, and the closing. */
final class Checks {
    static final String NO_SUCH = "NoSuchElementException";
    static final String ILLEGAL = "IllegalArgumentException";

    private static int wrong = 0;
    private static int asked = 0;

    interface Call {
        long answer();
    }

    private Checks() {
    }

    static void due(String call, long got, long want) {
        asked++;
        if (got != want) {
            wrong++;
            System.out.println(call + " answered " + got + ", due is " + want);
        }
    }

    static void dueThrow(String call, String want, Call run) {
        String got = "nothing";
        try {
            run.answer();
        } catch (NoSuchElementException e) {
            got = NO_SUCH;
        } catch (IllegalArgumentException e) {
            got = ILLEGAL;
        } catch (RuntimeException e) {
            got = e.getClass().getSimpleName();
        }
        asked++;
        if (!got.equals(want)) {
            wrong++;
            System.out.println(call + " threw " + got + ", due is " + want);
        }
    }

    /** Puts the text's bytes on the tape, blanks behind it up to a whole row of twenty. */
    static void feed(StoutShelf x, String text) {
        int[] five = new int[5];
        for (int at = 0; at < text.length(); at += 20) {
            for (int i = 0; i < 5; i++) {
                five[i] = 0;
                for (int k = 0; k < 4; k++) {
                    int place = at + 4 * i + k;
                    five[i] = five[i] << 8 | (place < text.length() ? text.charAt(place) & 255 : 32);
                }
            }
            if (x.feed(five[0], five[1], five[2], five[3], five[4]) == StoutShelf.NONE) {
                throw new IllegalStateException("the text is too long for the tape");
            }
        }
    }

    static int tell(StoutShelf x, String text) {
        feed(x, text);
        return x.library(text.length());
    }

    static StoutShelf told(String text) {
        StoutShelf x = new StoutShelf();
        due("library of " + text, tell(x, text), 0);
        return x;
    }

    /** A LIBRARY of BOOKS with these LEAVES, each its owner's. */
    static String library(int readers, int[] leaves, int[] owners) {
        StringBuilder text = new StringBuilder();
        for (int r = 0; r < readers; r++) {
            text.append("reader;");
        }
        for (int b = 0; b < leaves.length; b++) {
            text.append("book ").append(leaves[b]).append(owners[b] < 0 ? "" : " of " + owners[b]).append(";");
        }
        return text.toString();
    }

    static void end() {
        System.out.println(asked + " answers, " + wrong + " wrong");
        if (wrong != 0) {
            System.exit(1);
        }
    }
}
