/** Promise 6 and the LAW: what a page is. */
public final class LawTest {
    public static void main(String[] args) {
        parts();
        values();
        deep();
        Checks.end();
    }

    private static void pages(String law, int want) {
        StoutShelf x = Checks.told("book 17 blanks 5 plates 3 torn 2;law " + law + ";");
        Checks.due("pages by " + law, x.book(0, 4), want);
    }

    private static void parts() {
        StoutShelf x = Checks.told("reader;reader;book 17 blanks 5 plates 3 torn 2 of 1;book 4 torn 9;");
        Checks.due("leaves", x.book(0, 0), 17);
        Checks.due("blanks", x.book(0, 1), 5);
        Checks.due("plates", x.book(0, 2), 3);
        Checks.due("torn", x.book(0, 3), 2);
        Checks.due("pages without a law", x.book(0, 4), 17);
        Checks.due("whose", x.book(0, 5), 1);
        Checks.due("no blanks", x.book(1, 1), 0);
        Checks.due("no plates", x.book(1, 2), 0);
        Checks.due("torn", x.book(1, 3), 9);
        Checks.due("the shelf's", x.book(1, 5), -1);
        Checks.dueThrow("book(2, 0)", Checks.NO_SUCH, () -> x.book(2, 0));
        Checks.dueThrow("book(-1, 0)", Checks.NO_SUCH, () -> x.book(-1, 0));
        Checks.dueThrow("book(0, 6)", Checks.NO_SUCH, () -> x.book(0, 6));
        Checks.dueThrow("book(0, -1)", Checks.NO_SUCH, () -> x.book(0, -1));
    }

    private static void values() {
        pages("leaves", 17);
        pages("blanks", 5);
        pages("plates", 3);
        pages("torn", 2);
        pages("0042", 42);
        pages("10-3-2", 5);
        pages("10-(3-2)", 9);
        pages("2+3*4", 14);
        pages("(2+3)*4", 20);
        pages("100/7/2", 7);
        pages("100/(7/2)", 33);
        pages("7/0", 0);
        pages("(0-7)/2", -3);
        pages("7/(0-2)", -3);
        pages("2*3/4*5", 5);
        pages("1<2", 1);
        pages("2<2", 0);
        pages("2=2", 1);
        pages("2=3", 0);
        pages("0-1<0", 1);
        pages("1+1=2*1", 1);
        pages("not 5", 0);
        pages("not 0", 1);
        pages("not not 5", 1);
        pages("not 1<2", 0);
        pages("not 2=3 and 7", 1);
        pages("5 or 0", 1);
        pages("0 or 0", 0);
        pages("5 and 7", 1);
        pages("5 and 0", 0);
        pages("1 or 0 and 0", 1);
        pages("(1 or 0) and 0", 0);
        pages("0 and 0 or 1", 1);
        pages("0-5 and 1", 1);
        pages("if 5 then 8 else 9 end", 8);
        pages("if 0 then 8 else 9 end", 9);
        pages("if leaves<5 then 1 else if plates=3 then 2*torn else 7 end+1 end", 5);
        pages("1+if 1 then 2 else 3 end*10", 21);
        pages("9999*9999*9999", 9999 * 9999 * 9999);
        pages("0-9999*9999*100", -9999 * 9999 * 100);
        // 2 to the 31 is the least int; by -1 it stays itself.
        pages("4096*4096*128/(0-1)", Integer.MIN_VALUE);
        pages("4096*4096*256", 0);
    }

    /* As many values as can be wait for others, and as many TOKENS as fit in a TEXT. */
    private static void deep() {
        for (int last = 0; last <= 1; last++) {
            String law = "0 or 1 and 0<0+1*" + last;
            for (int i = 0; i < 5; i++) {
                law = "0 or 1 and 0<0+1*if 0 then 0 else " + law + " end";
            }
            pages(law, last);
        }
        String text = "book 1;law  1" + "+1".repeat(343) + ";";
        Checks.due("the text's length", text.length(), 700);
        Checks.due("the longest law", Checks.told(text).book(0, 4), 344);
    }
}
