/** Promises 1 to 19: each sentence that names an edge, at it and beyond it. */
public final class EdgesOfCalls extends Check {
    private static final int LEAST = Integer.MIN_VALUE;
    private static final int MOST = Integer.MAX_VALUE;
    private static final long SPACES = 0x2020202020202020L;

    public static void main(String[] args) {
        newObject();
        typeTakesOneToEight();
        typeTakesTheLowestBytes();
        typeEndsAtFourThousand();
        wipe();
        runEmptiesTheText();
        runAnswersFaults();
        place();
        rows();
        columns();
        cell();
        cellOfManyRows();
        column();
        written();
        writtenAtItsLongest();
        made();
        plan();
        counts();
        term();
        find();
        findOfAllOrderings();
        count();
        finish();
    }

    private static void newObject() {
        about("1: nothing is said, no rules, no text, no result");
        due("state", "0 0 0 0", state());
        due("text", 0, store().wipe());
        due("rows, columns, made, place", "0 0 0 0",
            store().rows() + " " + store().columns() + " " + store().made() + " " + store().place());
        due("cell, column, written, plan", "-1 -1 -1 -1",
            store().cell(0, 0) + " " + store().column(0) + " " + store().written(0) + " " + store().plan(0));
        due("term, find", "-1 -1", store().term(1) + " " + store().find(0, 0, 0));
        due("count", "0 0", store().count(0, 0, 0, 0, 0) + " " + store().count(5, 3, 1, 1, 1));
        due("BAD, FULL", "-1 -2", TripleStore.BAD + " " + TripleStore.FULL);
    }

    // 2 and 3.

    private static void typeTakesOneToEight() {
        about("2: BAD when n is not 1 .. 8");
        int[] wrong = {0, -1, 9, LEAST, MOST, 256, 257, -8};
        for (int n : wrong) {
            due("type of " + n, BAD, store().type(SPACES, n));
        }
        due("nothing came", 0, store().wipe());
        int length = 0;
        for (int n = 1; n <= 8; n++) {
            length += n;
            due("type of " + n, length, store().type(SPACES, n));
        }
        due("all came", 36, store().wipe());
    }

    private static void typeTakesTheLowestBytes() {
        about("2: the lowest n bytes, the highest of them first");
        due("CLEAR, and what is above it is left", 5, store().type(0x787878_434C454152L, 5));
        due("CLEAR", 0, store().run());
        due("its length", 5, store().place());
        due("eight of a number below 0", 8, store().type(0xFF41534B207B7D20L, 8));
        due("its first byte is no token", -101, store().run());
        due("the place", 0, store().place());
        due("the last of it", 1, store().type(0x7B7B7B7B7B7B7BFFL, 1));
        due("it is no token", -101, store().run());
        due("behind other bytes", 4, store().type(0x41534BL << 8 | 0x80, 4));
        due("a byte of 128 is none either", -101, store().run());
        due("the place", 3, store().place());
        due("seven bytes", 7, store().type(0x41534B207B7D20L, 7));
        due("in two calls", 8, store().type(-1L << 8 | 0x20, 1));
        due("ASK { }", 1, store().run());
    }

    private static void typeEndsAtFourThousand() {
        about("2: FULL when it would have more than 4000 (none of them comes then)");
        for (int i = 0; i < 499; i++) {
            store().type(SPACES, 8);
        }
        due("up to 3993", 3993, store().type(0x41L, 1));
        due("eight are one too many", FULL, store().type(SPACES, 8));
        due("seven come", 4000, store().type(0x534B207B7D2020L, 7));
        due("one more", FULL, store().type(0x20L, 1));
        due("nine are BAD", BAD, store().type(0x20L, 9));
        due("none is BAD", BAD, store().type(0x20L, 0));
        due("all of it is done: ASK { }", 1, store().run());
        due("place", 4000, store().place());
        due("then there is room", 8, store().type(SPACES, 8));
    }

    private static void wipe() {
        about("3: the text is empty; how long it was");
        due("empty", 0, store().wipe());
        store().type(SPACES, 8);
        store().type(SPACES, 1);
        due("nine", 9, store().wipe());
        due("again", 0, store().wipe());
        due("from the beginning", 3, store().type(0x41534BL, 3));
        run(" { }");
        due("behind run()", 0, store().wipe());
        due("the latest run() stays", 7, store().place());
        store().type(SPACES, 9);
        due("behind BAD", 0, store().wipe());
    }

    // 4 and 5.

    private static void runEmptiesTheText() {
        about("4: the text is empty then");
        answers(1, "ASK { }");
        due("behind an answer", 0, store().wipe());
        fails(2, 3, "ASK");
        due("behind a fault", 0, store().wipe());
        fails(2, 0, "");
        answers(1, "ASK { }");
        fails(2, 0, "");
        enter("AS");
        store().wipe();
        fails(2, 0, "K { }");
    }

    private static void runAnswersFaults() {
        about("4: the answer, or -100 - fault");
        due("1", -101, run("&"));
        due("2", -102, run("CLEAR CLEAR"));
        due("3", -103, run("ASK {{{{{{{{{}}}}}}}}}"));
        due("4", -104, run("INSERT DATA { 1 :p 1 }"));
        due("7", -107, run("UNRULE 0"));
        due("none", 0, run("CLEAR"));
        answers(12, "INSERT DATA { :a :p " + repeat("#", ",", 12) + " }");
        due("5", -105, run("ASK { ?a :p ?b,?c,?d,?e }"));
        answers(0, "RULE{?a ?p ?b.?c ?q ?d.?e ?r ?f}=>{?b ?a ?d}");
        due("6", -106, run("INSERT DATA { :a :p " + repeat("2#", ",", 10) + " }"));
        due("twelve are said", "12 12 14 1", state());
    }

    private static void place() {
        about("5: where the latest run() found its fault");
        due("before", 0, store().place());
        enter("CLEAR   ");
        due("typing is no run()", 0, store().place());
        answers(0, "");
        due("the text's length, blanks too", 8, store().place());
        fails(2, 9, "CLEAR    5");
        store().wipe();
        store().type(SPACES, 4);
        due("it stays", 9, store().place());
        fails(2, 8, "   \n");
        fails(7, 0, "UNRULE 0");
        answers(0, "CLEAR#");
        due("a remark counts", 6, store().place());
    }

    // 6 to 9.

    private static void rows() {
        about("6: how many rows the result of the latest run() has");
        answers(2, "INSERT DATA { :a :p 1 , 2 }");
        due("0 for what gives none", 0, store().rows());
        answers(2, "SELECT * WHERE { ?a :p ?b }");
        due("of a SELECT", 2, store().rows());
        answers(1, "ASK { ?a :p ?b }");
        due("ASK, too", 0, store().rows());
        answers(2, "SELECT * WHERE { ?a :p ?b }");
        fails(2, 0, "x");
        due("a fault", 0, store().rows());
        answers(1, "CONSTRUCT { ?a :k 1 } WHERE { ?a :p ?b }");
        due("of a CONSTRUCT", 1, store().rows());
        answers(0, "RULE { ?a :k ?b } => { ?a :k ?b }");
        due("RULE", 0, store().rows());
        answers(1, "SELECT * WHERE { }");
        due("without columns, too", "1 0", store().rows() + " " + store().columns());
        answers(0, "SELECT * WHERE { ?a :none ?b }");
        due("none", 0, store().rows());
        answers(0, "UNRULE 0");
        due("UNRULE", 0, store().rows());
        answers(2, "CLEAR");
        due("CLEAR", 0, store().rows());
    }

    private static void columns() {
        about("7: how many columns the result of the latest run() has");
        answers(0, "SELECT ?a ?b ?c WHERE { ?a :p ?b }");
        due("without rows", 3, store().columns());
        answers(0, "SELECT * WHERE { ?a ?b ?c . ?c ?d ?e }");
        due("of *", 5, store().columns());
        answers(0, "CONSTRUCT { :a :p ?b } WHERE { }");
        due("CONSTRUCT", 3, store().columns());
        answers(0, "ASK { ?a :p ?b }");
        due("ASK", 0, store().columns());
        answers(1, "SELECT ?a WHERE { }");
        due("one", 1, store().columns());
        fails(2, 17, "SELECT ?a WHERE {");
        due("a fault", 0, store().columns());
        answers(1, "SELECT ?a WHERE { }");
        fails(7, 0, "UNRULE 0");
        due("a fault 7", 0, store().columns());
        answers(1, "SELECT " + repeat("?v#", " ", 12) + " WHERE { }");
        due("twelve", 12, store().columns());
        answers(0, "CLEAR");
        due("CLEAR", 0, store().columns());
    }

    private static void cell() {
        about("8: 0 when nothing stands there; BAD when there is none such");
        answers(1, "SELECT ?a ?b WHERE { VALUES (?a) { (:x) } }");
        due("written", 3, store().cell(0, 0));
        due("nothing", 0, store().cell(0, 1));
        int[] rows = {-1, 1, LEAST, MOST};
        int[] columns = {-1, 2, LEAST, MOST};
        for (int row : rows) {
            due("row " + row, BAD, store().cell(row, 0));
        }
        for (int column : columns) {
            due("column " + column, BAD, store().cell(0, column));
        }
        due("neither", BAD, store().cell(LEAST, MOST));
        answers(1, "ASK { }");
        due("ASK has none", BAD, store().cell(0, 0));
        answers(1, "SELECT * WHERE { }");
        due("a row without columns", BAD, store().cell(0, 0));
        answers(0, "SELECT ?a WHERE { ?a :p ?b }");
        due("a column without rows", BAD, store().cell(0, 0));
        answers(1, "SELECT ?a WHERE { VALUES ?a { 1 } }");
        fails(2, 0, ")");
        due("behind a fault", BAD, store().cell(0, 0));
        answers(1, "SELECT ?a WHERE { VALUES ?a { 1 } }");
        enter("CLEAR");
        due("typing leaves the result", 1, store().cell(0, 0));
        store().wipe();
        due("wipe() too", "1 1 1", store().cell(0, 0) + " " + store().rows() + " " + store().columns());
    }

    private static void cellOfManyRows() {
        about("8: what stands in the last row and column");
        answers(39, "SELECT ?a ?b WHERE { VALUES ?a { " + repeat("#", " ", 39) + " } BIND (?a + 1 AS ?b) }");
        due("first", "0 1", written(store().cell(0, 0)) + " " + written(store().cell(0, 1)));
        due("last", "38 39", written(store().cell(38, 0)) + " " + written(store().cell(38, 1)));
        due("behind", BAD, store().cell(39, 0));
    }

    private static void column() {
        about("9: the name of a column's variable, without ?");
        answers(1, "SELECT ?abcdefghijkl ?_ ?0 WHERE { }");
        due("twelve bytes", "abcdefghijkl", written(store().column(0)));
        due("one", "_", written(store().column(1)));
        due("a digit", "0", written(store().column(2)));
        int[] wrong = {-1, 3, LEAST, MOST};
        for (int c : wrong) {
            due("column " + c, BAD, store().column(c));
        }
        due("BAD leaves what is written", "0", written(1));
        answers(0, "CONSTRUCT { ?x ?y ?z } WHERE { ?x ?y ?z }");
        due("of CONSTRUCT", "s p o", written(store().column(0)) + " " + written(store().column(1)) + " "
            + written(store().column(2)));
        due("a fourth", BAD, store().column(3));
        answers(1, "ASK { }");
        due("of ASK", BAD, store().column(0));
        fails(2, 0, "?x");
        due("of a fault", BAD, store().column(0));
    }

    // 10.

    private static void written() {
        about("10: byte i of what was written latest; BAD when there is none");
        due("nothing yet", BAD, store().written(0));
        answers(1, "INSERT DATA { :abc :p \"x\" }");
        due("term()", "<abc>", written(store().term(1)));
        int[] wrong = {-1, 5, 6, 199, 200, LEAST, MOST};
        for (int i : wrong) {
            due("byte " + i, BAD, store().written(i));
        }
        due("BAD of term()", BAD, store().term(0));
        due("leaves it", "<abc>", written(5));
        store().cell(0, 0);
        store().column(0);
        due("BAD of cell() and column(), too", "<abc>", written(5));
        answers(1, "SELECT ?a ?b WHERE { ?a :p ?c }");
        due("run() leaves it", "<abc>", written(5));
        due("nothing in the cell", 0, store().cell(0, 1));
        due("nothing is written then", BAD, store().written(0));
        due("column()", "b", written(store().column(1)));
        store().wipe();
        store().find(0, 0, 0);
        due("other calls leave it", "b", written(1));
        fails(2, 0, "");
        due("a fault leaves it", "b", written(1));
    }

    private static void writtenAtItsLongest() {
        about("10: the longest term");
        String escaped = bytes("\\\\", 64);
        String type = "^^<" + bytes("t", 40) + ">";
        answers(1, "INSERT DATA { <" + bytes("n", 40) + "> a \"" + escaped + "\"" + type + " }");
        due("a name", "<" + bytes("n", 40) + ">", written(store().term(1)));
        due("a text with a type", "\"" + escaped + "\"" + type, written(store().term(3)));
        due("its bytes", 174, store().term(3));
        due("its last byte", '>' + 0, store().written(173));
        due("behind it", BAD, store().written(174));
    }

    // 11 and 12.

    private static void made() {
        about("11: how many rows, groups and values the latest run() made");
        due("before", 0, store().made());
        made(1, "ASK { }");
        fails(2, 3, "ASK");
        made(7, "SELECT * WHERE { }");
        made(0, "INSERT DATA { :a :p 1 }");
        made(0, "DELETE DATA { :a :p 1 }");
        made(1, "INSERT { :a :p ?x } WHERE { }");
        made(2, "INSERT { :a :p 1 } WHERE { }");
        made(0, "RULE { ?a :p 5 } => { ?a :p 6 }");
        made(0, "UNRULE 0");
        made(0, "CLEAR");
        fails(7, 0, "UNRULE 0");
        made(1, "ASK { }");
        enter("ASK { }");
        due("typing leaves it", 1, store().made());
    }

    private static void plan() {
        about("12: BAD when there is none, or there was a fault but 5");
        due("before", BAD, store().plan(0));
        answers(1, "ASK { }");
        due("no pattern", BAD, store().plan(0));
        answers(0, "ASK { ?a :p ?b . ?a :q ?b }");
        due("two", "0 1 -1", plan(3));
        int[] wrong = {-1, 2, LEAST, MOST};
        for (int k : wrong) {
            due("plan of " + k, BAD, store().plan(k));
        }
        enter("ASK { }");
        due("typing leaves it", "0 1 -1", plan(3));
        answers(1, "");
        due("run() does not", "-1", plan(1));
        answers(0, "ASK { ?a ^:p ?b }");
        due("a path line is no pattern", "-1", plan(1));
        answers(0, "ASK { ?a ^:p ?b . ?a :p ?b }");
        due("nor does it count", "0 -1", plan(2));
        fails(4, 10, "SELECT ?a ?a WHERE { ?a :p ?b }");
        answers(0, "DELETE DATA { :a :p 1 }");
        due("facts do not count", "-1", plan(1));
    }

    // 13 to 17.

    private static void counts() {
        about("13 .. 16: triples, said, terms, rules");
        answers(0, "RULE { ?a :p ?b } => { ?a :q ?b }");
        due("a rule's terms", "0 0 2 1", state());
        answers(1, "INSERT DATA { :a :p 1 }");
        due("what follows holds", "2 1 4 1", state());
        answers(1, "INSERT DATA { :a :q 1 }");
        due("it is said as well", "2 2 4 1", state());
        answers(0, "INSERT DATA { :a :q 1 }");
        answers(0, "DELETE DATA { :b :q 1 }");
        due("nothing new", "2 2 4 1", state());
        answers(1, "DELETE DATA { :a :q 1 }");
        due("it follows all the same", "2 1 4 1", state());
        answers(0, "UNRULE 0");
        due("now it does not", "1 1 4 0", state());
        answers(1, "CLEAR");
        due("numbers stay", "0 0 4 0", state());
        answers(0, "CLEAR");
    }

    private static void term() {
        about("17: the term of a number is written; BAD when there is none");
        answers(1, "INSERT DATA { _:b a -1.5 }");
        due("first", "_:b", written(store().term(1)));
        due("last", "-1.5", written(store().term(3)));
        int[] wrong = {0, 4, -1, 801, 1000, LEAST, MOST};
        for (int number : wrong) {
            due("term " + number, BAD, store().term(number));
        }
        answers(1, "SELECT ?x WHERE { VALUES ?x { 77 } }");
        due("a statement's terms have none", "-1 3", store().term(4) + " " + store().terms());
        answers(1, "CLEAR");
        due("it keeps it", "_:b", written(store().term(1)));
        answers(1, "INSERT DATA { :a :p :b }");
        due("the next ones come behind", "<a> <b>", written(store().term(4)) + " " + written(store().term(5)));
    }

    // 18 and 19.

    private static void find() {
        about("18: BAD when there is none such");
        answers(0, "RULE { ?a :p ?b } => { ?a :q ?b }");
        answers(1, "INSERT DATA { :a :p 1 }");
        due("said", "3 1 4 1", found(0, 0));
        due("not said", "3 2 4 0", found(0, 1));
        int[] orders = {-1, 6, LEAST, MOST};
        int[] ks = {-1, 2, LEAST, MOST};
        int[] parts = {-1, 4, LEAST, MOST};
        for (int order : orders) {
            due("order " + order, BAD, store().find(order, 0, 0));
        }
        for (int k : ks) {
            due("triple " + k, "-1 -1", store().find(0, k, 0) + " " + store().find(5, k, 3));
        }
        for (int part : parts) {
            due("part " + part, BAD, store().find(0, 0, part));
        }
        answers(1, "CLEAR");
        due("empty", "-1 -1", store().find(0, 0, 0) + " " + store().find(5, 0, 3));
    }

    private static String found(int order, int k) {
        return store().find(order, k, 0) + " " + store().find(order, k, 1) + " " + store().find(order, k, 2) + " "
            + store().find(order, k, 3);
    }

    private static void findOfAllOrderings() {
        about("18: six orderings, by the numbers of the places, the first one that differs");
        // <a> <b> <c> are 1 2 3.
        answers(4, "INSERT DATA { :a :b :c . :a :c :b . :b :a :c . :c :a :b }");
        String[] due = {"123 132 213 312", "132 123 213 312", "213 312 123 132", "312 213 123 132",
            "132 312 123 213", "312 132 213 123"};
        for (int order = 0; order < 6; order++) {
            StringBuilder got = new StringBuilder();
            for (int k = 0; k < 4; k++) {
                got.append(k > 0 ? " " : "").append(store().find(order, k, 0)).append(store().find(order, k, 1))
                    .append(store().find(order, k, 2));
            }
            due("ordering " + order, due[order], got);
        }
    }

    private static void count() {
        about("19: none, where one is no term's; BAD for another order or n");
        due("of nothing", "0 0", store().count(0, 0, 0, 0, 0) + " " + store().count(0, 1, 1, 0, 0));
        answers(4, "INSERT DATA { :a :b :c . :a :c :b . :b :a :c . :c :a :b }");
        for (int order = 0; order < 6; order++) {
            due("none of the numbers", 4, store().count(order, 0, LEAST, MOST, 0));
        }
        due("one", "2 1 1 0", store().count(0, 1, 1, 0, 0) + " " + store().count(0, 1, 2, 0, 0) + " "
            + store().count(2, 1, 3, 0, 0) + " " + store().count(4, 1, 1, 0, 0));
        due("two", "1 0 1 1", store().count(0, 2, 1, 2, 0) + " " + store().count(0, 2, 1, 1, 0) + " "
            + store().count(2, 2, 1, 2, 0) + " " + store().count(5, 2, 2, 1, 0));
        due("three", "1 0", store().count(0, 3, 1, 2, 3) + " " + store().count(0, 3, 3, 2, 1));
        int[] strange = {0, 4, -1, 801, 1023, 1024, 1025, 1026, 1027, 2050, -1022, LEAST, MOST};
        for (int number : strange) {
            due("no term: " + number, "0 0 0", store().count(0, 1, number, 2, 3) + " " + store().count(0, 2, 1, number, 3)
                + " " + store().count(0, 3, 1, 2, number));
            due("not looked at: " + number, "2 1", store().count(0, 1, 1, number, number) + " "
                + store().count(0, 2, 1, 2, number));
        }
        int[] orders = {-1, 6, LEAST, MOST};
        int[] ns = {-1, 4, LEAST, MOST};
        for (int order : orders) {
            due("order " + order, BAD, store().count(order, 0, 1, 1, 1));
        }
        for (int n : ns) {
            due("n " + n, BAD, store().count(0, n, 1, 1, 1));
        }
        due("both, and no term's", BAD, store().count(6, 4, 0, 0, 0));
        due("n, and no term's", BAD, store().count(0, 4, 0, 0, 0));
    }
}
