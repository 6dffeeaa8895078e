/** Each sentence on the LAW that names an edge: what wraps, what is cut, what 0 does, and PAGES that wrap. */
public final class LawEdgesTest {
    private static final String MOST = "(4096*4096*128-1)";
    private static final String LEAST = "(4096*4096*128)";

    public static void main(String[] args) {
        Checks.sentence("From the left", () -> {
            pages("10-3-2", 5);
            pages("10-3+2", 9);
            pages("100/7/2", 7);
            pages("8/4*2", 4);
            pages("7*3/2", 10);
            pages("2+3*4-5", 9);
        });
        Checks.sentence("ints that wrap", () -> {
            pages(MOST, Integer.MAX_VALUE);
            pages(MOST + "+1", Integer.MIN_VALUE);
            pages("0-" + MOST + "-1", Integer.MIN_VALUE);
            pages("0-" + MOST + "-2", Integer.MAX_VALUE);
            pages("0-" + LEAST, Integer.MIN_VALUE);
            pages("4096*4096*256", 0);
            pages(MOST + "*2", -2);
            pages("9999*9999*9999", 9999 * 9999 * 9999);
            pages(MOST + "+1<0", 1);
        });
        Checks.sentence("/ cut down to 0", () -> {
            pages("7/2", 3);
            pages("(0-7)/2", -3);
            pages("7/(0-2)", -3);
            pages("(0-7)/(0-2)", 3);
            pages("1/2", 0);
            pages("(0-1)/2", 0);
            pages(LEAST + "/(0-1)", Integer.MIN_VALUE);
            pages(LEAST + "/1", Integer.MIN_VALUE);
        });
        Checks.sentence("by 0 gives 0", () -> {
            pages("7/0", 0);
            pages("0/0", 0);
            pages("(0-7)/0", 0);
            pages("5+7/0*9", 5);
            pages("7/(2-2)+1", 1);
            pages("if 0 then 7/0 else 3 end", 3);
        });
        Checks.sentence("tests, not, and, or are 1 or 0 (what isn't 0 holds)", () -> {
            pages("1<2", 1);
            pages("2<2", 0);
            pages("3<2", 0);
            pages(LEAST + "<" + MOST, 1);
            pages(MOST + "<" + LEAST, 0);
            pages("2=2", 1);
            pages("2=3", 0);
            pages("not 0", 1);
            pages("not 1", 0);
            pages("not 7", 0);
            pages("not (0-1)", 0);
            pages("not " + LEAST, 0);
            pages("2 and 4", 1);
            pages("2 and 0", 0);
            pages("0 and 2", 0);
            pages("0 and 0", 0);
            pages("(0-1) and " + LEAST, 1);
            pages("2 or 4", 1);
            pages("0 or 4", 1);
            pages("4 or 0", 1);
            pages("0 or 0", 0);
            pages("0 or " + LEAST, 1);
            pages("if 0-1 then 8 else 9 end", 8);
            pages("if " + LEAST + " then 8 else 9 end", 8);
            pages("if 0 then 8 else 9 end", 9);
        });
        Checks.sentence("AND ('or' AND)*", () -> {
            pages("7", 7);
            pages("(0-7)", -7);
            pages("1 or 1 and 0", 1);
            pages("0 and 1 or 1", 1);
            pages("not 0 and 0", 0);
            pages("not 2=3", 1);
            pages("not 1+1", 0);
        });
        Checks.sentence("VALUES: 'leaves', 'blanks', 'plates', 'torn'", () -> {
            pages("leaves", 17);
            pages("blanks", 5);
            pages("plates", 3);
            pages("torn", 2);
        });
        Checks.sentence("2 PAGES of THE SHELF together (as ints that wrap)", () -> {
            Checks.due("over the most", Checks.told("book 1;book 1;law " + MOST + ";").count(2), -2);
            Checks.due("under the least", Checks.told("book 1;book 1;law " + LEAST + ";").count(2), 0);
            Checks.due("once more", Checks.told("book 1;book 1;book 1;law " + LEAST + ";").count(2), Integer.MIN_VALUE);
        });
        Checks.sentence("takes one that is there, of fewer PAGES", LawEdgesTest::farApart);
        Checks.end();
    }

    private static void pages(String law, int want) {
        StoutShelf x = Checks.told("book 17 blanks 5 plates 3 torn 2;law " + law + ";");
        Checks.due("pages by " + law, x.book(0, 4), want);
    }

    /* The PAGES' difference is no int: who subtracts them is mistaken. */
    private static void farApart() {
        StoutShelf x = Checks.told("reader;reader;book 1 of 0;book 2;book 2 of 1;book 1;"
                + "law if leaves=1 then " + MOST + " else " + LEAST + " end;");
        Checks.due("the most for the least", x.judge(0, 0, 1), 0);
        Checks.due("the least for the most", x.judge(1, 2, 3), 4);
        Checks.due("as many", x.judge(0, 0, 3), 4);
        Checks.due("reach", x.reach(0), 3);
        Checks.due("reach of the other", x.reach(1), 4);
        Checks.due("lost", x.lost(3, 0), -1);
        Checks.due("not lost", x.lost(1, 0), 0);
    }
}
