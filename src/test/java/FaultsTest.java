/** Promises 3 and 4: every FAULT of a TEXT, and its place. */
public final class FaultsTest {
    private static final String FIVE_READERS = "reader;reader;reader;reader;reader;";

    public static void main(String[] args) {
        tokens();
        lines();
        numbers();
        tooMany();
        told();
        expressions();
        depth();
        nots();
        words();
        leastOfOneToken();
        Checks.end();
    }

    private static void fault(String text, int fault, int place) {
        Checks.faultDue(text, fault, place);
    }

    private static void good(String text) {
        Checks.goodDue(text);
    }

    private static void tokens() {
        fault("A", 1, 0);
        fault("reader\t;", 1, 6);
        fault("reader\r;", 1, 6);
        fault("reader.", 1, 6);
        fault("reader,", 1, 6);
        fault("reader;\u00e9", 1, 7);
        fault("reader;\0", 1, 7);
        fault("readers;", 1, 0);
        fault("readerreader;", 1, 0);
        fault("re ader;", 1, 0);
        fault("law 1>2;", 1, 5);
        fault("law 1:2;", 1, 5);
        fault("law 1%2;", 1, 5);
        good("reader;book5of0;wants0 0;");
        good("law leaves*(2-blanks)/torn+plates<3=0;".replace("<3=0", "<3"));
    }

    private static void lines() {
        good("");
        good("  \n ");
        fault(";", 1, 0);
        fault("5;", 1, 0);
        fault("reader", 1, 6);
        fault("reader  ", 1, 8);
        fault("reader;;", 1, 7);
        fault("reader 1;", 1, 7);
        fault("book;", 1, 4);
        fault("book", 1, 4);
        fault("book blanks 5;", 1, 5);
        fault("book 5 blanks;", 1, 13);
        fault("book 5 of;", 1, 9);
        fault("book 5 leaves 3;", 1, 7);
        fault("book 5 blanks 1 blanks 2;", 1, 16);
        fault("book 5 torn 1 plates 2;", 1, 14);
        fault("reader;book 5 of 0 torn 1;", 1, 19);
        good("reader;book 5 blanks 1 plates 2 torn 3 of 0;");
        good("reader;book 5 blanks 1 torn 3 of 0;");
        fault("reader;wants;", 1, 12);
        fault("reader;wants 0;", 1, 14);
        fault("reader;book 5;wants 0 0 0;", 1, 24);
        fault("of 0;", 1, 0);
        fault("leaves;", 1, 0);
        fault("law 1", 1, 5);
        fault("law 1 ", 1, 6);
    }

    private static void numbers() {
        fault("book 0;", 2, 5);
        good("book 1;");
        good("book 99;");
        good("book 0099;");
        fault("book 100;", 2, 5);
        fault("book 9999;", 2, 5);
        fault("book 12345;", 2, 5);
        fault("book 00005;", 2, 5);
        fault("book 99999999999999999999;", 2, 5);
        good("book 5 blanks 0 plates 0 torn 0;");
        good("book 5 blanks 99 plates 99 torn 99;");
        fault("book 5 blanks 100;", 2, 14);
        fault("book 5 plates 100;", 2, 14);
        fault("book 5 torn 100;", 2, 12);
        good("law 9999;");
        good("law 0000;");
        fault("law 10000;", 2, 4);
        fault("law 1+00000;", 2, 6);
        fault("reader;book 5 of 00000;", 2, 17);
        fault("reader;wants 00000 0;", 2, 13);
        fault("reader;book 1;wants 0 00000;", 2, 22);
    }

    private static void tooMany() {
        good(FIVE_READERS);
        fault(FIVE_READERS + " reader;", 2, 36);
        StringBuilder twelve = new StringBuilder();
        for (int i = 0; i < 12; i++) {
            twelve.append("book 1;");
        }
        good(twelve.toString());
        fault(twelve + "book foo", 2, 84);
        good(twelve + FIVE_READERS + "wants 4 11;law 1;");
        fault(twelve + FIVE_READERS + "wants 4 12;", 3, 127);
        fault(twelve + FIVE_READERS + "wants 5 11;", 3, 125);
    }

    private static void told() {
        fault("book 5 of 0;reader;", 3, 10);
        fault("reader;book 5 of 1;", 3, 17);
        fault("reader;book 5 of 9999;", 3, 17);
        fault("book 1;wants 0 0;", 3, 13);
        fault("reader;wants 0 0;book 1;", 3, 15);
        fault("reader;book 1;wants 0 1;", 3, 22);
        fault("reader;book 1;wants 0 9999;", 3, 22);
        fault("reader;book 1;wants 0 0;wants 0 5;", 4, 30);
        good("reader;reader;book 1;wants 1 0;wants 0 0;");
        fault("law 1;law 1;", 4, 6);
        fault("law 1;law", 4, 6);
        fault("law 1;law foo", 4, 6);
    }

    private static void expressions() {
        fault("law;", 1, 3);
        fault("law", 1, 3);
        fault("law );", 1, 4);
        fault("law +1;", 1, 4);
        fault("law 1+;", 1, 6);
        fault("law 1 2;", 1, 6);
        fault("law leaves blanks;", 1, 11);
        fault("law 1<2<3;", 1, 7);
        fault("law 1=2=3;", 1, 7);
        good("law (1<2)<3;");
        good("law 1<2 and 2<3 or not 1=2;");
        fault("law (1;", 1, 6);
        fault("law 1);", 1, 5);
        fault("law ();", 1, 5);
        fault("law if 1 then 2 else 3;", 1, 22);
        fault("law if 1 then 2 end;", 1, 16);
        fault("law if 1 else 2;", 1, 9);
        fault("law if 1 then 2 else 3 end end;", 1, 27);
        fault("law if 1 foo", 1, 9);
        good("law if 1 then 2 else 3 end+if 0 then 1 else 2 end;");
        fault("law 1 then;", 1, 6);
        fault("law 1 not 2;", 1, 6);
    }

    private static void depth() {
        good("law (((((1)))));");
        fault("law ((((((1))))));", 2, 10);
        fault("law ((((((leaves))))));", 2, 10);
        fault("law ((((((foo))))));", 2, 10);
        fault("law ((((((not 1))))));", 2, 10);
        fault("law ((((((if", 2, 10);
        fault("law (((((((1)))))));", 2, 10);
        fault("law ((((((12345", 2, 10);
        fault("law (((((()))))", 1, 10);
        fault("law ((((((+1", 1, 10);
        fault("law ((((((", 1, 10);
        fault("law ((((((;", 1, 10);
        good("law (((((1)))))+(((((2)))));");
        good("law if if if if if 1 then 1 else 1 end then 1 else 1 end then 1 else 1 end"
                + " then 1 else 1 end then 1 else 1 end;");
        fault("law if if if if if if 1 then", 2, 22);
        fault("law (((((if 1 then 2 else 3 end)))));", 2, 12);
        good("law ((((if 1 then 2 else 3 end))));");
        good("law ((((if 1 then 2 else 3 end)+(4))));");
        fault("law if 1 then ((((( 7", 2, 20);
        fault("law if 1 then 1 else ((((( 7", 2, 27);
    }

    private static void nots() {
        good("law not not not not not not 1;");
        fault("law not not not not not not not 1;", 2, 28);
        fault("law not not not not not not not not", 2, 28);
        good("law not not not not not not (not not not not not not 1);");
        good("law not not not not not not 1 and not not not not not not 1;");
        fault("law 1 or not not not not not not not 1;", 2, 33);
        fault("law not;", 1, 7);
        fault("law not not not not not not ;", 1, 28);
    }

    private static void words() {
        fault("law pages;", 3, 4);
        fault("law then;", 3, 4);
        fault("law or;", 3, 4);
        fault("law reader;", 3, 4);
        fault("law 1+not 2;", 3, 6);
        fault("law 1<not 2;", 3, 6);
        fault("law 1*and;", 3, 6);
        fault("law not end;", 3, 8);
        fault("law (foo);", 3, 5);
        fault("law if foo then", 3, 7);
        fault("law 1 and foo;", 3, 10);
        fault("law iff;", 3, 4);
        fault("law leave;", 3, 4);
        fault("law z;", 3, 4);
        fault("law leavess;", 3, 4);
    }

    private static void leastOfOneToken() {
        fault("reader 12345;", 1, 7);
        fault("reader;book 1;wants 0 0;wants 00000 0;", 2, 30);
        fault(FIVE_READERS + "reader foo", 2, 35);
        fault("foo;book 0;", 1, 0);
        fault("book 0;foo;", 2, 5);
    }
}
