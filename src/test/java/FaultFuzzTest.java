import java.util.Random;

/** Texts gone wrong at random, their FAULTS held against the SecondReader. */
public final class FaultFuzzTest {
    private static final int TEXTS = 60000;
    private static final String[] BITS = {"reader", "book", "wants", "law", "blanks", "plates", "torn", "of", "leaves",
        "if", "then", "else", "end", "not", "and", "or", "foo", ";", "(", ")", "+", "-", "*", "/", "<", "=", "0", "1",
        "5", "12", "99", "100", "9999", "00000", "12345", " ", "\n", "\t", ",", "A", "\u00ff", "((((", "not not not ",
        "reader;", "book 1;"};
    private static final String[] LINES = {"reader;", "book 1;", "law 1;", "wants 0 0;", "wants 1 1;", "wants 4 11;"};

    public static void main(String[] args) {
        Random random = new Random(7);
        int[] seen = new int[5];
        for (int i = 0; i < TEXTS; i++) {
            String text = spoil(new RandomLibrary(random, 12).text, random);
            if (text.length() > 700) {
                continue;
            }
            long want = new SecondReader().read(text);
            StoutShelf x = new StoutShelf();
            Checks.due("fault of " + text, Checks.tell(x, text), want >> 32);
            Checks.due("place in " + text, x.fault(), (int) want);
            seen[(int) (want >> 32)]++;
        }
        for (int fault = 0; fault < 5; fault++) {
            Checks.due("texts with fault " + fault + " are many", seen[fault] > 300 ? 1 : 0, 1);
        }
        Checks.end();
    }

    private static String spoil(String text, Random random) {
        StringBuilder all = new StringBuilder(text);
        for (int n = random.nextInt(3); n >= 0; n--) {
            int at = random.nextInt(all.length() + 1);
            int end = Math.min(all.length(), at + random.nextInt(8));
            String bit = BITS[random.nextInt(BITS.length)];
            switch (random.nextInt(6)) {
                case 0 -> all.delete(at, end);
                case 1 -> all.insert(at, bit);
                case 2 -> all.replace(at, end, bit);
                case 3 -> all.insert(all.indexOf(";", at) + 1, bit);
                case 4 -> all.append(LINES[random.nextInt(LINES.length)]);
                default -> all.setLength(random.nextInt(4) == 0 ? at : all.length());
            }
        }
        return all.toString();
    }
}
