/** Each sentence on the TEXT that names an edge, by its own words: how much there may be, TOKENS, LINES, FAULTS. */
public final class TextEdgesTest {
    private static final String FIVE = "reader;".repeat(5);
    private static final String TWELVE = "book 1;".repeat(12);
    private static final String[] WORDS = {"reader", "book", "blanks", "plates", "torn", "of", "wants", "law", "or", "and",
        "not", "if", "then", "else", "end", "leaves"};

    public static void main(String[] args) {
        howMuch();
        tokens();
        lines();
        whichFault();
        cannotStand();
        tooMuch();
        unknown();
        twice();
        Checks.end();
    }

    private static void fault(String text, int fault, int place) {
        Checks.faultDue(text, fault, place);
    }

    private static void good(String text) {
        Checks.goodDue(text);
    }

    private static void howMuch() {
        Checks.sentence("A LIBRARY has BOOKS 0, 1 .. (at most 12)", () -> {
            StoutShelf x = Checks.told(TWELVE);
            Checks.due("books", x.count(0), 12);
            Checks.due("the last", x.book(11, 0), 1);
            Checks.dueThrow("one more", Checks.NO_SUCH, () -> x.book(12, 0));
            fault(TWELVE + "book 1;", 2, 84);
        });
        Checks.sentence("each with LEAVES (1 to 99)", () -> {
            fault("book 0;", 2, 5);
            Checks.due("least", Checks.told("book 1;").book(0, 0), 1);
            Checks.due("most", Checks.told("book 99;").book(0, 0), 99);
            fault("book 100;", 2, 5);
        });
        Checks.sentence("BLANKS, PLATES, TORN ones (0 to 99 each; 0 without)", TextEdgesTest::blanksPlatesTorn);
        Checks.sentence("READERS 0, 1 .. (at most 5)", () -> {
            StoutShelf x = Checks.told(FIVE);
            Checks.due("readers", x.count(1), 5);
            Checks.due("the last", x.reader(4, 1), 0);
            Checks.dueThrow("one more", Checks.NO_SUCH, () -> x.reader(5, 1));
            fault(FIVE + "reader;", 2, 35);
        });
        Checks.sentence("each of whom may WANT a BOOK", () -> {
            StoutShelf x = Checks.told("reader;reader;reader;book 5;book 6;wants 1 1;wants 2 0;");
            Checks.due("none", x.reader(0, 0), -1);
            Checks.due("the last book", x.reader(1, 0), 1);
            Checks.due("the first book", x.reader(2, 0), 0);
        });
        Checks.sentence("(an EXPR; 'leaves' without)", () ->
            Checks.due("pages", Checks.told("book 7 blanks 50 plates 60 torn 70;").book(0, 4), 7));
        Checks.sentence("A TEXT of at most 700 bytes tells it", () -> {
            String text = "reader;" + " ".repeat(685) + "book 37;";
            Checks.due("its length", text.length(), 700);
            Checks.due("the last line", Checks.told(text).book(0, 0), 37);
            String open = "reader;" + " ".repeat(686) + "book 37";
            fault(open, 1, 700);
        });
    }

    private static void blanksPlatesTorn() {
        String[] names = {"blanks", "plates", "torn"};
        for (int k = 0; k < 3; k++) {
            String ahead = "book 5 " + names[k] + " ";
            Checks.due("without", Checks.told("book 5;").book(0, k + 1), 0);
            Checks.due("least", Checks.told(ahead + "0;").book(0, k + 1), 0);
            Checks.due("most", Checks.told(ahead + "99;").book(0, k + 1), 99);
            fault(ahead + "100;", 2, ahead.length());
        }
    }

    private static void tokens() {
        Checks.sentence("words (a .. z, the longest row)", () -> {
            fault("law a;", 3, 4);
            fault("law z;", 3, 4);
            fault("law `;", 1, 4);
            fault("law {;", 1, 4);
            fault("law A;", 1, 4);
            fault("readerbook 5;", 1, 0);
            fault("rea der;", 1, 0);
            fault("law leavesblanks;", 3, 4);
            good("reader;book5of0;law if1then2else3end;");
        });
        Checks.sentence("NUMBERS (1 to 4 digits)", () -> {
            Checks.due("1 digit", Checks.told("book 7;law 9;").book(0, 4), 9);
            Checks.due("4 digits", Checks.told("book 7;law 9999;").book(0, 4), 9999);
            Checks.due("4 digits", Checks.told("book 0007;").book(0, 0), 7);
            Checks.due("0", Checks.told("book 7;law 0000;").book(0, 4), 0);
            fault("law 10000;", 2, 4);
            fault("law 1 2;", 1, 6);
        });
        Checks.sentence("signs ; ( ) + - * / < =", TextEdgesTest::everyByte);
        Checks.sentence("blanks (32, 10) between them count for nothing", () -> {
            good(" ");
            good("\n");
            good(" \n\n  reader \n ;\n\nbook  5 of\n0 ; wants 0 0;law\nleaves\n+ 1 ; \n");
            good("reader;book 5of 0;wants 0\n0;");
            fault("reader \n ", 1, 9);
            for (int b : new int[] {0, 9, 11, 12, 13, 31, 33, 160}) {
                fault("reader" + (char) b + ";", 1, 6);
            }
        });
    }

    /* Every byte at a text's beginning, behind a number, and where a PART must stand. */
    private static void everyByte() {
        for (int b = 0; b < 256; b++) {
            char c = (char) b;
            boolean blank = b == 32 || b == 10;
            boolean letter = c >= 'a' && c <= 'z';
            boolean digit = c >= '0' && c <= '9';
            boolean joins = b < 128 && "+-*/<=".indexOf(c) >= 0;
            fault(c + "reader;", blank ? 0 : 1, blank ? -1 : 0);
            fault("law 1" + c + "1;", digit || joins ? 0 : 1, digit || joins ? -1 : blank || c == ';' ? 6 : 5);
            fault("law " + c, letter ? 3 : 1, blank || digit || c == '(' ? 5 : 4);
        }
    }

    private static void lines() {
        Checks.sentence("LIBRARY: LINE*", () -> {
            good("");
            good("law 1;reader;book 1;");
            good("book 1;reader;wants 0 0;law 1;book 2 of 0;reader;wants 1 1;");
            fault(";", 1, 0);
            fault("reader;;", 1, 7);
        });
        Checks.sentence("'book' LEAVES ['blanks' NUMBER] ['plates' NUMBER] ['torn' NUMBER] ['of' READER]", () -> {
            String[] parts = {" blanks 1", " plates 2", " torn 3", " of 0"};
            for (int set = 0; set < 16; set++) {
                StringBuilder text = new StringBuilder("reader;book 9");
                for (int k = 0; k < 4; k++) {
                    text.append((set >> k & 1) == 1 ? parts[k] : "");
                }
                StoutShelf x = Checks.told(text.append(";").toString());
                for (int k = 0; k < 3; k++) {
                    Checks.due("part " + k + " in " + text, x.book(0, k + 1), (set >> k & 1) == 1 ? k + 1 : 0);
                }
                Checks.due("whose in " + text, x.book(0, 5), set >= 8 ? 0 : -1);
            }
            for (int a = 0; a < 4; a++) {
                for (int b = 0; b <= a; b++) {
                    String ahead = "reader;book 9" + parts[a];
                    fault(ahead + parts[b] + ";", 1, ahead.length() + 1);
                }
            }
        });
        Checks.sentence("'wants' READER BOOK", () -> {
            good("reader;book 5;wants 0 0;");
            good("reader;book 5;wants 0000 0000;");
            fault("reader;book 5;wants;", 1, 19);
            fault("reader;book 5;wants 0;", 1, 21);
            fault("reader;book 5;wants 0 0 0;", 1, 24);
        });
        Checks.sentence("all in capitals but EXPR being NUMBERS", () -> {
            String[] places = {"book ", "book 5 blanks ", "book 5 plates ", "book 5 torn ", "book 5 of ",
                "wants ", "wants 0 "};
            for (String ahead : places) {
                String text = "reader;book 1;" + ahead;
                for (String other : new String[] {"leaves", "if", "(", "(1)", "-", ";"}) {
                    fault(text + other + ";", 1, text.length());
                }
            }
            fault("book 5+1;", 1, 6);
        });
        Checks.sentence("SUM [('<' | '=') SUM]", () -> {
            good("law 1<2;");
            good("law 1=2;");
            fault("law 1<2<3;", 1, 7);
            fault("law 1<2=3;", 1, 7);
            fault("law 1=2<3;", 1, 7);
            fault("law 1=2=3;", 1, 7);
            good("law 1<2 and 2=3 or 3<4;");
        });
        Checks.sentence("'if' EXPR 'then' EXPR 'else' EXPR 'end'", () -> {
            good("law if 1 then 2 else 3 end;");
            fault("law if then 2 else 3 end;", 3, 7);
            fault("law if 1 then else 3 end;", 3, 14);
            fault("law if 1 then 2 else end;", 3, 21);
            fault("law if 1 then 2 end;", 1, 16);
            fault("law if 1 else 3 end;", 1, 9);
            fault("law if 1 then 2 else 3;", 1, 22);
        });
    }

    private static void whichFault() {
        Checks.sentence("the first along the text", () -> {
            fault("book 0;book 5 of 0;", 2, 5);
            fault("book 5 of 0;book 0;", 3, 10);
            fault("law 1;law 2;foo;", 4, 6);
            fault("foo;law 1;law 2;", 1, 0);
            fault("law pages+12345;", 3, 4);
            fault("law 12345+pages;", 2, 4);
        });
        Checks.sentence("at a TOKEN's first byte", () -> {
            fault("book   123456;", 2, 7);
            fault("law 1 +\n\n pages;", 3, 10);
            fault("reader;  foo;", 1, 9);
            fault("law 1; law 2;", 4, 7);
        });
        Checks.sentence("of one TOKEN the least", () -> {
            fault("reader 12345;", 1, 7);
            fault("law 1 12345;", 1, 6);
            fault("law 1 pages;", 1, 6);
            fault("law 1 law 2;", 1, 6);
            fault("reader;book 5 of 12345;", 2, 17);
            fault("reader;book 5;wants 0 0;wants 00000 0;", 2, 30);
            fault("law ((((((pages", 2, 10);
            fault("law ((((((12345", 2, 10);
            fault("law ((((((then", 2, 10);
            fault(TWELVE + "law book", 3, 88);
            fault(TWELVE + "wants book", 1, 90);
            fault(FIVE + "law 1 reader", 1, 41);
        });
    }

    private static void cannotStand() {
        Checks.sentence("1 a TOKEN that can't stand there, or is none", () -> {
            String[] tokens = ("reader ; book 9 blanks 1 plates 2 torn 3 of 0 ; wants 0 0 ; law not if leaves < 2 then"
                    + " ( 1 + 2 ) * 3 else 4 / 5 - 6 end or 7 and 8 = 9 ; book 5 ;").split(" ");
            String[] others = (String.join(" ", WORDS) + " foo ; ( ) + - * / < = 0 7 99 100 9999 10000 . A").split(" ");
            StringBuilder ahead = new StringBuilder();
            for (String token : tokens) {
                for (String other : others) {
                    everyTokenHere(ahead + other);
                }
                ahead.append(token).append(' ');
            }
        });
        Checks.sentence("(the text's length where it ends too soon)", () -> {
            String[] tokens = ("reader ; book 9 blanks 1 plates 2 torn 3 of 0 ; wants 0 0 ; law not if leaves < 2 then"
                    + " ( 1 + 2 ) * 3 else 4 / 5 - 6 end or 7 and 8 = 9 ;").split(" ");
            StringBuilder text = new StringBuilder();
            for (String token : tokens) {
                text.append(token);
                boolean whole = token.equals(";");
                fault(text.toString(), whole ? 0 : 1, whole ? -1 : text.length());
                text.append(' ');
                fault(text.toString(), whole ? 0 : 1, whole ? -1 : text.length());
            }
        });
    }

    private static void everyTokenHere(String text) {
        long want = new SecondReader().read(text);
        fault(text, (int) (want >> 32), (int) want);
    }

    private static void tooMuch() {
        Checks.sentence("a NUMBER of 5 digits or more", () -> {
            String[] places = {"book ", "book 5 blanks ", "book 5 plates ", "book 5 torn ", "book 5 of ", "wants ",
                "wants 0 ", "law ", "law 1+", "law ("};
            for (String ahead : places) {
                String text = "reader;book 1;" + ahead;
                fault(text + "00000;", 2, text.length());
                fault(text + "00001;", 2, text.length());
                fault(text + "4294967297;", 2, text.length());
                fault(text + "9".repeat(100) + ";", 2, text.length());
            }
        });
        Checks.sentence("or (not in an EXPR) not as told", () -> {
            fault("book 0000;", 2, 5);
            fault("book 9999;", 2, 5);
            fault("book 1 torn 9999;", 2, 12);
            good("law 0;");
            good("law 100+9999;");
        });
        Checks.sentence("the first TOKEN of the 13th BOOK, the 6th READER", () -> {
            fault(TWELVE + " book", 2, 85);
            fault(TWELVE + "book foo;", 2, 84);
            good(TWELVE + FIVE);
            fault(TWELVE + FIVE + " book 1;", 2, 120);
            fault(FIVE + " reader", 2, 36);
            fault(FIVE + "reader foo", 2, 35);
            fault(TWELVE + FIVE + "reader;", 2, 119);
        });
        Checks.sentence("of an EXPR within 6 others (a NUMBER, any word, a parenthesis)", TextEdgesTest::within);
        Checks.sentence("the seventh 'not' side by side", () -> {
            good("law " + "not ".repeat(6) + "1;");
            fault("law " + "not ".repeat(7) + "1;", 2, 28);
            fault("law " + "not ".repeat(20) + "1;", 2, 28);
            good("law " + "not ".repeat(6) + "(" + "not ".repeat(6) + "1);");
            good("law " + "not ".repeat(6) + "1 and " + "not ".repeat(6) + "1 or " + "not ".repeat(6) + "1;");
            fault("law 1 and " + "not ".repeat(7) + "1;", 2, 34);
            fault("law (" + "not ".repeat(7) + "1);", 2, 29);
            fault("law " + "not ".repeat(6) + "foo;", 3, 28);
        });
    }

    private static void within() {
        good("law (((((1)))));");
        good("law ((((( not 1 and leaves )))));");
        String six = "law ((((((";
        fault(six + "1))))));", 2, 10);
        fault(six + " 1))))));", 2, 11);
        fault(six + "9999", 2, 10);
        fault(six + "(", 2, 10);
        for (String word : WORDS) {
            fault(six + word, 2, 10);
        }
        fault(six + "foo", 2, 10);
        for (String sign : new String[] {")", ";", "+", "-", "*", "/", "<", "=", ".", "A"}) {
            fault(six + sign, 1, 10);
        }
        fault(six, 1, 10);
        String ifs = "law " + "if ".repeat(5);
        good(ifs + "1" + " then 1 else 1 end".repeat(5) + ";");
        fault(ifs + "if 1", 2, 22);
        String deepThen = "law " + "if 1 then ".repeat(5);
        good(deepThen + "1" + " else 1 end".repeat(5) + ";");
        fault(deepThen + "if 1", 2, 57);
        String deepElse = "law " + "if 1 then 1 else ".repeat(5);
        good(deepElse + "1" + " end".repeat(5) + ";");
        fault(deepElse + "(1", 2, 90);
        good("law (((((1)))))+(((((2)))))*(((((3)))));");
    }

    private static void unknown() {
        Checks.sentence("any word where a PART must stand that is no VALUE and not 'if'", () -> {
            String[] places = {"law ", "law not ", "law 1 or ", "law 1 and ", "law 1<", "law 1=", "law 1+", "law 1-",
                "law 1*", "law 1/", "law (", "law if ", "law if 1 then ", "law if 1 then 1 else "};
            for (String ahead : places) {
                fault(ahead + "foo", 3, ahead.length());
                for (String word : WORDS) {
                    everyTokenHere(ahead + word);
                }
                for (String value : new String[] {"leaves", "blanks", "plates", "torn"}) {
                    fault(ahead + value, 1, ahead.length() + value.length());
                }
            }
            fault("law 1+not 1;", 3, 6);
            fault("law 1<not 1;", 3, 6);
            fault("law then;", 3, 4);
            fault("law leave;", 3, 4);
            fault("law leavess;", 3, 4);
        });
        Checks.sentence("a READER, a BOOK that isn't told ahead", () -> {
            fault("book 5 of 0;reader;", 3, 10);
            fault("reader;book 5 of 1;reader;", 3, 17);
            good("reader;reader;book 5 of 1;");
            fault("wants 0 0;", 3, 6);
            fault("reader;book 5;wants 1 0;reader;", 3, 20);
            fault("reader;wants 0 0;book 5;", 3, 15);
            fault("reader;book 5;wants 0 1;book 5;", 3, 22);
            good("reader;book 5;book 5;wants 0 1;");
            fault(FIVE + "book 5 of 5;", 3, 45);
            good(FIVE + "book 5 of 4;");
            fault(FIVE + TWELVE + "wants 5 0;", 3, 125);
            fault(FIVE + TWELVE + "wants 0 12;", 3, 127);
            good(FIVE + TWELVE + "wants 4 11;");
            fault("reader;book 5 of 9999;", 3, 17);
        });
    }

    private static void twice() {
        Checks.sentence("4 a second 'law'", () -> {
            fault("law 1;law 1;", 4, 6);
            fault("law 1;law", 4, 6);
            fault("law 1;reader;book 1;law pages;", 4, 20);
        });
        Checks.sentence("a READER of whom it was told already what he WANTS", () -> {
            String ahead = "reader;reader;book 1;book 1;wants 0 1;";
            fault(ahead + "wants 0 1;", 4, 44);
            fault(ahead + "wants 0 0;", 4, 44);
            fault(ahead + "wants 0 9;", 4, 44);
            fault(ahead + "wants 0", 4, 44);
            fault(ahead + "wants 00 0;", 4, 44);
            good(ahead + "wants 1 1;");
            fault(ahead + "wants 1 0;wants 0 0;", 4, 54);
        });
    }
}
