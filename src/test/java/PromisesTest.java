/** For each promise of the document: ordinary inputs, the edges that it names, and wrong inputs. */
public final class PromisesTest extends Check {
    public static void main(String[] args) {
        newObject();
        typing();
        running();
        numbersOfTexts();
        places();
        results();
        writing();
        making();
        plans();
        looking();
        rulesFollow();
        rooms();
        expressions();
        groups();
        paths();
        finish();
    }

    // Promises 1 to 4.

    private static void newObject() {
        about("1 A new object");
        due("state", "0 0 0 0", store().triples() + " " + store().said() + " " + store().terms() + " " + store().rules());
        due("text", 0, store().wipe());
        due("result", "0 0 0 0", store().rows() + " " + store().columns() + " " + store().made() + " " + store().place());
        due("nothing written", BAD, store().written(0));
        due("cell, column, plan, term, find", "-1 -1 -1 -1 -1", store().cell(0, 0) + " " + store().column(0) + " "
            + store().plan(0) + " " + store().term(1) + " " + store().find(0, 0, 0));
        due("constants", "-1 -2", TripleStore.BAD + " " + TripleStore.FULL);
    }

    private static void typing() {
        about("2 type, 3 wipe");
        due("none", BAD, store().type(65, 0));
        due("nine", BAD, store().type(65, 9));
        due("below none", BAD, store().type(65, Integer.MIN_VALUE));
        due("one", 1, store().type(-1L, 1));
        due("wipe", 1, store().wipe());
        due("wipe again", 0, store().wipe());
        due("the highest byte first", 5, store().type(0x7777434C454152L, 5));
        due("CLEAR", 0, store().run());
        for (int i = 0; i < 499; i++) {
            store().type(0x2020202020202020L, 8);
        }
        due("seven more", 3999, store().type(0x2020202020202020L, 7));
        due("two are too many", TripleStore.FULL, store().type(0x2020L, 2));
        due("one fits", 4000, store().type(0x20L, 1));
        due("then none", TripleStore.FULL, store().type(0x20L, 1));
        due("all of it", 4000, store().wipe());
    }

    private static void running() {
        about("4 run");
        answers(2, "INSERT DATA { :a :p 1 , 2 , 1 }");
        answers(0, "INSERT DATA { :a :p 1 }");
        answers(1, "DELETE DATA { :a :p 1 . :a :p 7 . :q :q :q }");
        answers(1, "SELECT * WHERE { ?a ?b ?c }");
        answers(1, "ASK { :a :p ?x }");
        answers(0, "ASK { :a :p 1 }");
        answers(1, "CONSTRUCT { ?a :k ?a . ?a :k ?a } WHERE { ?a :p ?b }");
        answers(2, "DELETE { ?a :p ?b } INSERT { ?a :p ?b } WHERE { ?a :p ?b }");
        answers(0, "RULE { ?a :p ?b } => { ?b :q ?a }");
        answers(1, "RULE { ?a :p ?b } => { ?b :q ?a }");
        answers(1, "UNRULE 0");
        fails(7, 0, "UNRULE 1");
        fails(7, 0, "UNRULE 999999999999999999");
        fails(2, 7, "UNRULE -1");
        answers(1, "CLEAR");
        answers(0, "CLEAR");
        due("rules stay", 1, store().rules());
        due("the text is empty", 0, store().wipe());
        fails(2, 0, "");
        fails(2, 3, "   ");
        fails(1, 0, "&");
        fails(2, 0, "select * WHERE { }");
    }

    private static void numbersOfTexts() {
        about("3 TEXT");
        gives("0 / 0.5 / 1.5 / 5 / 12", "SELECT ?a WHERE { VALUES (?a) { (0012) (-0) (+005) (.50) (1.500000000000) } }");
        gives("123456789012345678", "SELECT ?a WHERE { VALUES ?a { 123456789012345678 } }");
        gives("9 / 123456789012345678", "SELECT ?a WHERE { VALUES ?a { 1234567890123456789 } }");
        gives("1 / 0.123456789", "SELECT ?a WHERE { VALUES ?a { 0.12345678900001 } } ORDER BY DESC(?a)");
        gives("5 / 123456789012345678.0", "SELECT ?a WHERE { VALUES ?a { 123456789012345678.05 } }");
        fresh();
        failsAt(2, "ASK { VALUES ?a { 1 @@-5 } }");
        failsAt(2, "INSERT DATA { :a :p @@-5 }");
        answers(1, "INSERT DATA { :a a -5 }");
        gives("-5", "SELECT ?a WHERE { VALUES ?a { -5 } }");
        gives("4", "SELECT (9 -5 AS ?a) WHERE { }");
        gives("14", "SELECT (9 - -5 AS ?a) WHERE { }");
        gives("\"a\\\"\\\\\\n\\r\\t\"", "SELECT ?a WHERE { VALUES ?a { \"a\\\"\\\\\\n\\r\\t\" } }");
        gives("\"x\"@en", "SELECT ?a WHERE { VALUES ?a { \"x\"@EN } }");
        failsAt(2, "ASK { VALUES ?a { \"\"@abcdefgh@@I } }");
        gives("100000000000000000 / 0.9", "SELECT ?a WHERE { VALUES ?a { 100000000000000000.9 } } ORDER BY DESC(?a)");
        gives("99999999999999999.9", "SELECT ?a WHERE { VALUES ?a { 99999999999999999.9 } }");
        gives("\"5\"^^<xhole> / \"5\"^^<xruth>", "SELECT ?a WHERE { VALUES ?a { \"5\"^^<xhole> \"5\"^^<xruth> } }");
        failsAt(2, "ASK { VALUES ?a { \"x\"@@^/<t> } }");
        fresh();
        fails(2, 0, repeat(";", "", 4000));
        fresh();
        gives("\"x\"^^<t>", "SELECT ?a WHERE { VALUES ?a { \"x\"^^<t> } }");
        gives("0.5 / 7 / \"x\" / true", "SELECT ?a WHERE { VALUES ?a { \"+07\"^^<whole> \".50\"^^<decimal> \"true\"^^<truth> \"x\"^^<text> } }");
        fails(2, 21, "ASK { VALUES ?a { \"x\"^^<whole> } }");
        fails(2, 20, "ASK { VALUES ?a { \"\"^^<whole> } }");
        fails(1, 21, "ASK { VALUES ?a { \"x\"@1 } }");
        fails(1, 18, "ASK { VALUES ?a { \"x\ty\" } }");
        fails(1, 18, "ASK { VALUES ?a { \"" + repeat("a", "", 65) + "\" } }");
        answers(1, "ASK { VALUES ?a { \"" + repeat("\\n", "", 64) + "\" } }");
        answers(1, "ASK { VALUES ?a { <" + repeat("a", "", 40) + "> } }");
        fails(2, 18, "ASK { VALUES ?a { <" + repeat("a", "", 41) + "> } }");
        failsAt(2, "ASK { VALUES ?a { :" + repeat("a", "", 40) + "@@a } }");
    }

    private static void places() {
        about("5 place");
        answers(0, "CLEAR # a remark");
        due("no fault: the length", 16, store().place());
        fails(1, 12, "ASK { ?a :p ~ }");
        failsAt(2, "ASK { ?ab @@\"x\" ?b }");
        fails(2, 13, "ASK { ?a :p  ");
        fails(2, 15, "ASK { ?a :p 1 }x");
        fails(4, 6, "ASK { 5 :p ?b }");
        fails(4, 14, "INSERT DATA { ?a :p 1 }");
        fails(4, 26, "RULE { ?a :p ?b } => { :x ?c :y }");
        failsAt(4, "RULE { ?a :p 1 , 2 , 3 , 4 , 5 , ?b @@} => { ?a :p ?b }");
        failsAt(4, "RULE { ?a :p ?b } => { ?a :p 1 , 2 , 3 , ?b @@}");
        fails(4, 32, "ASK { BIND (1 AS ?a) BIND (2 AS ?a) }");
        failsAt(1, "ASK { BIND (1 AS ?a) BIND (2 AS ?a@@~) }");
        failsAt(4, "ASK { BIND (1 AS ?a) BIND (2 AS @@?a x }");
        fails(4, 17, "ASK { VALUES (?a ?a");
        fresh();
        fails(4, 10, "SELECT ?a ?a WHERE { } x");
        fails(4, 7, "SELECT * WHERE { } GROUP BY ?a");
        fails(4, 24, "SELECT (COUNT(*) AS ?n) ?a WHERE { }");
        fails(4, 14, "ASK { FILTER (SUM(?a)) }");
        failsAt(4, "SELECT ?a WHERE { } GROUP BY (@@COUNT(?a) AS ?m)");
        failsAt(4, "SELECT (COUNT(*) AS @@?n) WHERE { } GROUP BY (1 AS ?n) x");
        failsAt(4, "SELECT ?z ?z WHERE { ?a :p ?b } GROUP BY (1 AS @@?a)");
        failsAt(4, "SELECT (COUNT(*) AS ?n) WHERE { } HAVING (@@?n > 1)");
        failsAt(4, "SELECT (SUM(@@SUM(?a)) AS ?n) WHERE { }");
        fails(3, 21, "ASK { FILTER ((((((((((1)))))))))) }");
        fails(3, 18, "ASK { FILTER (!!!!!1) }");
        fails(3, 20, "ASK { { { { { { { { { } } } } } } } } }");
    }

    // Promises 6 to 10.

    private static void results() {
        about("6 rows, 7 columns, 8 cell, 9 column");
        answers(3, "INSERT DATA { :a :p 1 , 2 . :b :p \"x\" }");
        answers(3, "SELECT ?a ?long_name1 WHERE { ?a :p ?b }");
        due("rows", 3, store().rows());
        due("columns", 2, store().columns());
        due("its name", "a", written(store().column(0)));
        due("its name", "long_name1", written(store().column(1)));
        due("no column", "-1 -1", store().column(2) + " " + store().column(-1));
        due("a cell", "<a>", written(store().cell(0, 0)));
        due("nothing in it", 0, store().cell(0, 1));
        due("then nothing is written", BAD, store().written(0));
        due("no cell", "-1 -1 -1 -1", store().cell(3, 0) + " " + store().cell(0, 2) + " " + store().cell(-1, 0) + " " + store().cell(0, -1));
        answers(1, "ASK { ?a :p ?b }");
        due("ASK has no rows", "0 0", store().rows() + " " + store().columns());
        answers(0, "SELECT ?a WHERE { ?a :zz ?b }");
        due("columns without rows", "0 1", store().rows() + " " + store().columns());
        gives("<a> <k> 1 / <a> <k> 2 / <b> <k> \"x\"", "CONSTRUCT { ?a :k ?b . ?b :k ?a } WHERE { ?a :p ?b }");
        due("CONSTRUCT's columns", "s p o", written(store().column(0)) + " " + written(store().column(1)) + " " + written(store().column(2)));
        answers(0, "CONSTRUCT { ?a :k ?b } WHERE { ?a :zz ?b }");
        due("three without rows", "0 3", store().rows() + " " + store().columns());
        answers(0, "DELETE DATA { :no :no :no }");
        due("no result", "0 0", store().rows() + " " + store().columns());
        gives("<b> \"x\" / <a> 2 / <a> 1", "SELECT ?a ?b WHERE { ?a :p ?b } ORDER BY DESC(?b)");
        gives("1 <a> / 2 <a> / \"x\" <b>", "SELECT ?b ?a WHERE { ?a :p ?b }");
        gives("<a> / <b>", "SELECT DISTINCT ?a WHERE { ?a :p ?b }");
        gives("<a>", "SELECT ?a WHERE { ?a :p ?b } LIMIT 1 OFFSET 1");
        gives("", "SELECT ?a WHERE { ?a :p ?b } OFFSET 99999999999999999");
    }

    private static void writing() {
        about("10 written");
        due("nothing yet", BAD, store().written(0));
        answers(1, "INSERT DATA { :a :p 1.50 }");
        due("a term", "1.5", written(store().term(3)));
        due("BAD leaves it", BAD, store().term(4));
        due("still there", "1.5", written(3));
        fails(2, 0, "nonsense");
        due("run leaves it", "1.5", written(3));
        due("wrong places", "-1 -1", store().written(-1) + " " + store().written(Integer.MAX_VALUE));
        gives("_:b1 / <n> / -3 / 2.0 / \"t\" / \"t\"@de / \"t\"^^<d> / false / true",
            "SELECT ?a WHERE { VALUES (?a) { (true) (false) (\"t\"^^<d>) (\"t\"@de) (\"t\") (2.0) (-3) (:n) (_:b1) } }");
    }

    // Promises 11 to 19.

    private static void making() {
        about("11 made");
        answers(3, "INSERT DATA { :a :p 1 , 2 . :b :p 1 }");
        due("none", 0, store().made());
        made(6 + 2 + 3, "SELECT ?a WHERE { ?a :p ?b }");
        made(1 + 1 + 3, "ASK { ?a :p ?b }");
        made(1 + 1 + 3 + 3, "CONSTRUCT { ?a :k ?b . ?a :k ?b } WHERE { ?a :p ?b }");
        made(1 + 2 + 3 + 9, "ASK { ?a :p ?b FILTER (?b < 2) }");
        made(1 + 3 + 3 + 3 * 3 + 3 * 1, "ASK { ?a :p ?b FILTER (?b < 2) FILTER (1) }");
        made(1 + 2 + 3 + 3 * 2, "ASK { ?a :p ?b FILTER (BOUND(?b)) }");
        made(1 + 2 + 3 + 3 * 3, "ASK { ?a :p ?b FILTER (!!1) }");
        made(1 + 2 + 3 + 3 * 2, "ASK { ?a :p ?b FILTER EXISTS { } }");
        made(1 + 2 + 3 + 3 * 4, "ASK { ?a :p ?b FILTER (1 || 2 || 3) }");
        made(1 + 2 + 3 + 3 * 4, "ASK { ?a :p ?b FILTER (IF(1, 2, 3)) }");
        made(1 + 2 + 3 + 1 + 1 + 3 + 5, "ASK { ?a :p ?b OPTIONAL { ?a :p ?c } }");
        made(1 + 1 + 2 + 2, "ASK { VALUES ?a { 1 2 } }");
        made(3 + 1 + 1 + 2, "ASK { { } UNION { } }");
        made(2 + 6 + 2 + 3 + 3 + 3, "ASK { { SELECT ?a WHERE { ?a :p ?b } } }");
        made(6 + 2 + 3 + 1 + 3 + 1, "SELECT (COUNT(?b) AS ?n) WHERE { ?a :p ?b }");
        made(6 + 2 + 3 + 3, "SELECT ?a WHERE { ?a :p ?b } ORDER BY ?b");
        made(0, "UNRULE 5");
        made(0, "SELECT");
        about("11 made, TERMS MADE");
        answers(41, "INSERT DATA { :a :p " + repeat("#", ",", 41) + " }");
        answers(26, "INSERT DATA { :a :q " + repeat("#000", ",", 26) + " }");
        String sums = "SELECT ?d WHERE { :a :p ?b ; :q ?c BIND (?b + ?c AS ?d) }";
        answers(41 * 26, sums);
        due("a thousand terms made", 10 + 26 + 4 * 26 * 41, store().made());
        answers(1, "INSERT DATA { :a :p 41 }");
        fails(5, 0, sums);
        about("11 made, fault 5");
        answers(40, "INSERT DATA { :a :p " + repeat("#", ",", 40) + " }");
        fails(5, 0, "ASK { ?a :p ?b , ?c , ?d }");
        due("made", 8000, store().made());
        fails(5, 0, "ASK { ?a :p ?b , ?c , ?d }");
        answers(1, "ASK { ?a :p ?b , ?c }");
        due("made", 1643, store().made());
        answers(1, "ASK { ?a :p ?b , ?c }");
        fails(5, 0, "ASK { ?a :p ?b , ?c }");
        due("made", 8000, store().made());
        fails(5, 0, "ASK { }");
        due("all other statements go on", 1, run("INSERT DATA { :b :p 1 }"));
    }

    private static void plans() {
        about("12 plan");
        answers(6, "INSERT DATA { :a :p 1 , 2 , 3 , 4 . :a :q 1 . :b :q 2 }");
        answers(3, "SELECT * WHERE { ?a :p ?b . ?a :q ?c FILTER (?b < 4) }");
        due("plan", "0 1 -1", store().plan(0) + " " + store().plan(1) + " " + store().plan(2));
        answers(4, "SELECT * WHERE { ?a :p ?b . ?a :q 1 }");
        due("plan", "1 0 -1", store().plan(0) + " " + store().plan(1) + " " + store().plan(2));
        answers(1, "ASK { ?a :q ?b ?a :p+ ?b ; :p ?c , ?d }");
        due("blocks as they stand", "0 1 2 -1", store().plan(0) + " " + store().plan(1) + " " + store().plan(2) + " " + store().plan(3));
        due("none", BAD, store().plan(-1));
        answers(0, "INSERT { ?a :p ?b . ?b :q ?a } WHERE { ?a :p 1 FILTER EXISTS { ?a :q ?b } }");
        due("facts do not count", "0 1 -1", store().plan(0) + " " + store().plan(1) + " " + store().plan(2));
        fails(2, 0, "x");
        due("not with a fault", BAD, store().plan(0));
        fails(5, 0, "ASK { ?a :p ?b . ?c :p ?d . ?e :p ?f . ?g :p ?h . ?i :p ?j . ?k :p ?l . ?m :p ?n }");
        due("but with fault 5", "0 6 -1", store().plan(0) + " " + store().plan(6) + " " + store().plan(7));
        answers(0, "DELETE DATA { :no :no :no }");
        due("no group, no plan", BAD, store().plan(0));
        answers(60, "INSERT DATA { :c :k " + repeat("#", ",", 60) + " }");
        fails(5, 0, "ASK { " + repeat("?a# :k ?b#", " . ", 7) + " }");
        due("sizes end at 10^12: the text's order", "0 1 2 3 4 5 6", store().plan(0) + " " + store().plan(1) + " " + store().plan(2)
            + " " + store().plan(3) + " " + store().plan(4) + " " + store().plan(5) + " " + store().plan(6));
    }

    private static void looking() {
        about("13 triples, 14 said, 15 terms, 16 rules, 17 term, 18 find, 19 count");
        answers(0, "RULE { ?a :p ?b } => { ?a :q ?b }");
        due("a rule's terms", "2 <p> <q>", store().terms() + " " + written(store().term(1)) + " " + written(store().term(2)));
        answers(2, "INSERT DATA { _:x :p 10 . :a :p 9 }");
        due("numbers in THE ORDER behind the others", "_:x <a> 9 10", written(store().term(3)) + " " + written(store().term(4))
            + " " + written(store().term(5)) + " " + written(store().term(6)));
        due("counts", "4 2 6 1", store().triples() + " " + store().said() + " " + store().terms() + " " + store().rules());
        due("no term", "-1 -1 -1", store().term(0) + " " + store().term(7) + " " + store().term(-5));
        String[] orders = {"3,1,6,1 3,2,6,0 4,1,5,1 4,2,5,0", "3,1,6,1 3,2,6,0 4,1,5,1 4,2,5,0",
            "3,1,6,1 4,1,5,1 3,2,6,0 4,2,5,0", "4,1,5,1 3,1,6,1 4,2,5,0 3,2,6,0",
            "4,1,5,1 4,2,5,0 3,1,6,1 3,2,6,0", "4,1,5,1 4,2,5,0 3,1,6,1 3,2,6,0"};
        for (int q = 0; q < 6; q++) {
            StringBuilder all = new StringBuilder();
            for (int k = 0; k < 4; k++) {
                all.append(k > 0 ? " " : "").append(store().find(q, k, 0)).append(',').append(store().find(q, k, 1))
                    .append(',').append(store().find(q, k, 2)).append(',').append(store().find(q, k, 3));
            }
            due("ordering " + q, orders[q], all);
        }
        due("no such", "-1 -1 -1 -1 -1 -1", store().find(6, 0, 0) + " " + store().find(-1, 0, 0) + " " + store().find(0, 4, 0)
            + " " + store().find(0, -1, 0) + " " + store().find(0, 0, 4) + " " + store().find(0, 0, -1));
        due("count none", "4 4", store().count(0, 0, 99, 99, 99) + " " + store().count(5, 0, -1, -1, -1));
        due("count one", "2 2 2 0 0 0", store().count(0, 1, 3, 0, 0) + " " + store().count(2, 1, 1, 0, 0) + " "
            + store().count(4, 1, 5, 0, 0) + " " + store().count(0, 1, 1, 0, 0) + " " + store().count(0, 1, 0, 0, 0) + " " + store().count(0, 1, 7, 0, 0));
        due("count two", "1 1 2 0", store().count(0, 2, 3, 1, 0) + " " + store().count(3, 2, 1, 6, 0) + " "
            + store().count(1, 2, 4, 5, 0) + " " + store().count(1, 2, 4, 6, 0));
        due("count three", "1 0", store().count(5, 3, 6, 2, 3) + " " + store().count(5, 3, 6, 2, 4));
        due("wrong", "-1 -1 -1 -1", store().count(6, 0, 0, 0, 0) + " " + store().count(-1, 0, 0, 0, 0) + " "
            + store().count(0, 4, 1, 1, 1) + " " + store().count(0, -1, 1, 1, 1));
        due("far numbers", "0 0", store().count(0, 1, Integer.MAX_VALUE, 0, 0) + " " + store().count(0, 3, 3, 1, Integer.MIN_VALUE));
        answers(1, "DELETE DATA { :a :p 9 }");
        due("terms keep their numbers", "2 1 6", store().triples() + " " + store().said() + " " + store().terms());
        answers(1, "INSERT DATA { _:x :q 10 }");
        due("said though it held", "2 2 1", store().triples() + " " + store().said() + " " + store().find(0, 1, 3));
        answers(1, "DELETE DATA { _:x :q 10 }");
        due("it holds all the same", "2 1 0", store().triples() + " " + store().said() + " " + store().find(0, 1, 3));
    }

    private static void rulesFollow() {
        about("2 WHAT HOLDS");
        answers(0, "RULE { ?a :p ?b . ?b :p ?c } => { ?a :p ?c }");
        answers(4, "INSERT DATA { :a :p :b . :b :p :c . :c :p :d . :d :p \"x\" }");
        due("closed", 10, store().triples());
        answers(1, "DELETE DATA { :b :p :c }");
        due("what rested on it goes", 4, store().triples());
        answers(1, "RULE { ?a :p ?b } => { ?b :q ?a . ?a :q ?a }");
        due("no triple has a text as subject", 4 + 2 + 3, store().triples());
        answers(1, "UNRULE 0");
        due("the rest stays", 3 + 2 + 3, store().triples());
        answers(3, "CLEAR");
        due("nothing", "0 0 7 1", store().triples() + " " + store().said() + " " + store().terms() + " " + store().rules());
        about("2 WHAT HOLDS: patterns that bring nothing new");
        answers(0, "RULE { ?a :p ?b . ?b :p ?a . :x :p :x } => { ?a :q ?b }");
        answers(3, "INSERT DATA { :a :p :b . :b :p :a . :a :p :c }");
        due("nothing yet", 3, store().triples());
        answers(1, "INSERT DATA { :x :p :x }");
        due("all", 4 + 3, store().triples());
        about("2 WHAT HOLDS: round rules");
        answers(0, "RULE { ?a :p ?b } => { ?b :q ?a }");
        answers(1, "RULE { ?a :q ?b } => { ?b :p ?a }");
        answers(1, "INSERT DATA { :a :p :b }");
        due("both", 2, store().triples());
        answers(1, "DELETE DATA { :a :p :b }");
        due("they do not hold each other", 0, store().triples());
        answers(2, "RULE { ?a ?p ?b } => { ?a ?b ?p }");
        answers(1, "INSERT DATA { :a :k 5 }");
        due("a number is no predicate", 1, store().triples());
    }

    private static void rooms() {
        about("ROOM: terms");
        for (int i = 0; i < 7; i++) {
            answers(100, "INSERT DATA { :a :p " + repeat(i + "#", ",", 100).replaceAll("\\b0(\\d)", "9000$1") + " }");
        }
        answers(98, "INSERT DATA { :a :p " + repeat("9#.5", ",", 98) + " }");
        due("full", 800, store().terms());
        fails(6, 0, "INSERT DATA{:a :p 123456}");
        fails(6, 0, "RULE{?a :zz ?b}=>{?a :p ?b}");
        answers(1, "INSERT DATA { :p :p 10 }");
        due("still", "800 799 0", store().terms() + " " + store().said() + " " + store().rules());
        about("ROOM: triples");
        answers(44, "INSERT DATA { " + repeat(":s# :p 1", " . ", 44) + " }");
        answers(1936, "INSERT { ?a :q ?b } WHERE { ?a :p 1 . ?b :p 1 }");
        answers(20, "INSERT DATA { " + repeat(":s# :p 2", " . ", 20) + " }");
        due("full", 2000, store().triples());
        fails(6, 0, "INSERT DATA { :s1 :p 3 }");
        fails(6, 0, "RULE { ?a :p 2 } => { ?a :p ?a }");
        fails(6, 0, "DELETE { :s1 :p 2 } INSERT { :s1 :p 3 . :s1 :p 4 } WHERE { }");
        due("nothing changed", "2000 2000 0", store().triples() + " " + store().said() + " " + store().rules());
        answers(2, "DELETE { :s1 :p 2 } INSERT { :s1 :p 3 } WHERE { }");
        about("ROOM: rules and CHOICES");
        answers(99, "INSERT DATA { :a :p " + repeat("#", ",", 99) + " }");
        answers(0, "RULE { ?a :p ?b . ?c :p ?d } => { ?a :q ?c }");
        fails(6, 0, "INSERT DATA { :a :p 99 }");
        answers(1, "RULE { :a :p ?b } => { ?b :p ?b }");
        fails(6, 0, "RULE { :a :p ?b . ?c :p ?d } => { ?b :p ?b }");
        for (int i = 2; i < 16; i++) {
            answers(i, "RULE { ?a :zz ?b } => { ?a :p ?b }");
        }
        fails(6, 0, "RULE { ?a :zz ?b } => { ?a :p ?b }");
        due("sixteen", 16, store().rules());
        about("ROOM of statements");
        answers(1, "ASK { " + repeat("{ }", " ", 39) + " }");
        fails(3, 6 + 39 * 4, "ASK { " + repeat("{ }", " ", 40) + " }");
        answers(0, "ASK { " + repeat("?v# :p ?w#", " ", 12) + " }");
        failsAt(3, "ASK { ?z :p " + repeat("?v#", " ?z :p ", 23) + " ?z :p @@?v23 }");
        failsAt(3, "ASK { " + repeat("?a :p #", " . ", 7) + " . ?a ^:p 1 . ?a :p @@7 }");
        failsAt(3, "ASK { " + repeat("?a ^:p #", " . ", 40) + " . ?a ^:p @@7 }");
        failsAt(3, "ASK { VALUES ?a { " + repeat("#", " ", 40) + " @@UNDEF } }");
        failsAt(3, "ASK { VALUES (" + repeat("?v#", " ", 8) + " @@?v8) { } }");
        failsAt(3, "SELECT " + repeat("?v#", " ", 12) + " @@(1 AS ?v12) WHERE { }");
        failsAt(3, "SELECT ?a WHERE { } ORDER BY " + repeat("?a", " ", 6) + " @@DESC(1)");
        failsAt(3, "ASK { FILTER (" + repeat("1", "+", 100) + "+ @@1) }");
    }

    // Parts 5 and 8.

    /** Names, and how many they take: at least, at most. */
    private static final String[] FUNCTIONS = {"IF", "3", "3", "COALESCE", "1", "8", "CONCAT", "0", "8", "STRLEN", "1", "1",
        "UCASE", "1", "1", "LCASE", "1", "1", "STR", "1", "1", "LANG", "1", "1", "DATATYPE", "1", "1", "TONAME", "1", "1",
        "ISNAME", "1", "1", "ISBLANK", "1", "1", "ISLITERAL", "1", "1", "ISNUMERIC", "1", "1", "ABS", "1", "1", "CEIL", "1", "1",
        "FLOOR", "1", "1", "ROUND", "1", "1", "STRSTARTS", "2", "2", "STRENDS", "2", "2", "CONTAINS", "2", "2",
        "STRBEFORE", "2", "2", "STRAFTER", "2", "2", "SAMETERM", "2", "2", "SUBSTR", "3", "3"};

    private static void expressions() {
        about("8 EXPRESSIONS");
        worth("3", "1 + 2");
        worth("3.0", "1 + 2.0");
        worth("0.333333333", "1 / 3");
        worth("-0.666666667", "-2 / 3");
        worth("0.000000001", "0.5 * 0.000000001");
        worth("-0.000000001", "-0.5 * 0.000000001");
        worth("-", "1 / 0");
        worth("-", "999999999999999999 + 1");
        worth("999999999999999999", "999999999999999998 + 1");
        worth("-", "999999999.5 * 999999999.5 * 2");
        worth("500000000000000000.0", "5000000000.0 * 100000000");
        worth("-", "1 + \"a\"");
        worth("2.0", "CEIL(1.5)");
        worth("-1.0", "CEIL(-1.5)");
        worth("-2.0", "FLOOR(-1.5)");
        worth("-1.0", "ROUND(-1.5)");
        worth("2.0", "ROUND(1.5)");
        worth("7", "ABS(-7)");
        worth("-5", "- 5");
        worth("true", "1 = 1.0");
        worth("false", "SAMETERM(1, 1.0)");
        worth("-", "\"a\"^^<t> = \"b\"^^<t>");
        worth("true", "\"a\"^^<t> = \"a\"^^<t>");
        worth("false", "\"a\"^^<t> = :a");
        worth("-", "\"a\"^^<t> = 5");
        worth("false", "\"a\" = \"a\"@en");
        worth("true", "\"a\" < \"ab\"");
        worth("true", "false < true");
        worth("-", "1 < \"a\"");
        worth("-", ":a < :b");
        worth("true", "1 <= 1.0");
        worth("true", "1 IN (2, ?x, 1)");
        worth("-", "1 IN (2, ?x)");
        worth("-", "?x IN ()");
        worth("false", "1 IN ()");
        worth("true", "1 NOT IN (2)");
        worth("false", "1 NOT IN (2, 1)");
        worth("-", "1 NOT IN (2, ?x)");
        worth("0", "(1) -1");
        worth("-1", "0 + -1");
        worth("true", "?x || 1");
        worth("-", "?x || 0");
        worth("false", "?x && 0");
        worth("-", "?x && 1");
        worth("-", "!\"a\"@en");
        worth("false", "!\"a\"");
        worth("true", "!\"\"");
        worth("true", "!0.0");
        worth("2", "IF(1, 2, ?x)");
        worth("-", "IF(?x, 2, 3)");
        worth("3", "COALESCE(?x, 1 / 0, 3)");
        worth("-", "COALESCE(?x)");
        worth("false", "BOUND(?x)");
        worth("\"a\"", "STR(:a)");
        worth("\"-1.5\"", "STR(-1.50)");
        worth("-", "STR(_:b)");
        worth("\"en\"", "LANG(\"a\"@en)");
        worth("\"\"", "LANG(5)");
        worth("-", "LANG(:a)");
        worth("<tagged>", "DATATYPE(\"a\"@en)");
        worth("<t>", "DATATYPE(\"a\"^^<t>)");
        worth("<truth>", "DATATYPE(true)");
        worth("-", "DATATYPE(_:b)");
        worth("<a/b>", "TONAME(\"a/b\")");
        worth("-", "TONAME(\"a b\")");
        worth("-", "TONAME(\"\")");
        worth("-", "TONAME(5)");
        worth("4", "STRLEN(\"a\\nbc\")");
        worth("-", "STRLEN(5)");
        worth("\"AB1\"@en", "UCASE(\"aB1\"@en)");
        worth("\"ab1\"", "LCASE(\"aB1\")");
        worth("\"bc\"", "SUBSTR(\"abcd\", 2, 2)");
        worth("\"a\"@en", "SUBSTR(\"abcd\"@en, -1, 3)");
        worth("\"\"", "SUBSTR(\"abcd\", 2, -2)");
        worth("-", "SUBSTR(\"abcd\", 2.0, 2)");
        worth("\"\"", "CONCAT()");
        worth("\"ab\"@en", "CONCAT(\"a\"@en, \"b\"@en)");
        worth("\"ab\"", "CONCAT(\"a\"@en, \"b\"@de)");
        worth("-", "CONCAT(\"a\", 5)");
        worth("-", "CONCAT(\"" + repeat("a", "", 64) + "\", \"b\")");
        worth("true", "STRSTARTS(\"abc\"@en, \"ab\"@en)");
        worth("-", "STRSTARTS(\"abc\", \"ab\"@en)");
        worth("true", "STRENDS(\"abc\", \"bc\")");
        worth("false", "STRSTARTS(\"abc\", \"bc\") || STRENDS(\"abc\", \"ab\") || CONTAINS(\"abc\", \"ac\")");
        worth("false", "STRENDS(\"c\", \"abc\")");
        worth("\"\"@en", "STRBEFORE(\"abc\"@en, \"a\")");
        worth("\"abc\"", "STRAFTER(\"abc\", \"\")");
        worth("true", "CONTAINS(\"abc\", \"\")");
        worth("\"a\"@en", "STRBEFORE(\"abcb\"@en, \"b\")");
        worth("\"cb\"@en", "STRAFTER(\"abcb\"@en, \"b\")");
        worth("\"\"", "STRAFTER(\"abc\"@en, \"z\")");
        worth("true", "ISNAME(:a) && ISBLANK(_:a) && ISLITERAL(true) && ISNUMERIC(1.5) && !ISNUMERIC(\"1\")");
        worth("3", "IF(0, 2, 3)");
        worth("-", "IF(\"a\"@en, 2, 3)");
        worth("false", ":a != :a");
        worth("true", ":a != :b");
        worth("-", "\"a\"^^<t> != 5");
        worth("-", "SAMETERM(?x, 1)");
        worth("-", "SAMETERM(1, ?x)");
        worth("false", "SAMETERM(_:a, :a)");
        worth("-", "CONCAT(?x)");
        worth("-", "ISNAME(?x)");
        worth("0.5", "1 / 2");
        worth("-0.000000001", "-1 / 1000000000");
        worth("0.0", "1 / 10000000000");
        worth("-", "0.000000001 * 999999999999999999 * 999999999999999999");
        gives("\"x\" \"x\" / \"y\"@en \"y\"@en / true -",
            "SELECT ?a ?b WHERE { VALUES ?a { \"x\" true \"y\"@en } BIND (COALESCE(UCASE(?z), CONCAT(?a)) AS ?b) }");
        for (int f = 0; f < FUNCTIONS.length; f += 3) {
            String name = "SELECT (" + FUNCTIONS[f];
            int least = Integer.parseInt(FUNCTIONS[f + 1]);
            int most = Integer.parseInt(FUNCTIONS[f + 2]);
            fresh();
            if (least > 0) {
                failsAt(2, name + "(" + repeat("1", ",", least - 1) + "@@) AS ?a) WHERE { }");
            }
            failsAt(2, name + "(" + repeat("1", ",", most) + "@@,1) AS ?a) WHERE { }");
            answers(1, name + "(" + repeat("1", ",", least) + ") AS ?a) WHERE { }");
            answers(1, name + "(" + repeat("1", ",", most) + ") AS ?a) WHERE { }");
        }
        fresh();
        failsAt(2, "SELECT (1 NOT @@(2) AS ?a) WHERE { }");
        failsAt(2, "SELECT (NOT @@BOUND(?x) AS ?a) WHERE { }");
        failsAt(2, "SELECT (BOUND(@@1) AS ?a) WHERE { }");
        failsAt(2, "SELECT (GROUPCONCAT(1 ; @@2) AS ?a) WHERE { }");
        failsAt(2, "SELECT (SUM(1 @@; \"\") AS ?a) WHERE { }");
        failsAt(2, "SELECT (SUM(@@*) AS ?a) WHERE { }");
        failsAt(2, "SELECT (1 @@, 2 AS ?a) WHERE { }");
        failsAt(2, "SELECT ((1 @@, 2) AS ?a) WHERE { }");
        failsAt(2, "SELECT (ABS(1@@, 2) AS ?a) WHERE { }");
        failsAt(2, "SELECT (1 = 1 @@= 1 AS ?a) WHERE { }");
        failsAt(2, "SELECT (1 IN () @@+ 1 AS ?a) WHERE { }");
    }

    private static final String FACTS =
        "INSERT DATA { :x :p :y , :z ; :v 3 . :y :p :z ; :v 1.5 . :z :v \"ab\" . _:b a <t> }";

    private static void groups() {
        about("5 WHAT GROUPS GIVE");
        answers(7, FACTS);
        gives("<x> <y> / <x> <z> / <y> - / <z> -", "SELECT ?a ?b WHERE { ?a :v ?n OPTIONAL { ?a :p ?b FILTER (?n > 2) } }");
        gives("<z>", "SELECT ?a WHERE { ?a :v ?n MINUS { ?a :p :z } }");
        gives("<x> / <y> / <z>", "SELECT ?a WHERE { ?a :v ?n MINUS { ?c :p :z } }");
        gives("<x> / <y> / <z>", "SELECT DISTINCT ?a WHERE { { ?a :p ?b } UNION { ?b :p ?a } }");
        gives("<x> <y> / <x> <z>", "SELECT ?a ?s WHERE { VALUES (?a ?s) { (:x UNDEF) (UNDEF 5) (:y \"q\") } ?a :p ?s }");
        gives("<x> 4 / <y> 2.5 / <z> -", "SELECT ?a ?m WHERE { ?a :v ?n BIND (?n + 1 AS ?m) }");
        gives("<z>", "SELECT ?a WHERE { ?a :v ?n FILTER NOT EXISTS { ?a :p ?b } }");
        gives("<x>", "SELECT ?a WHERE { FILTER (?n > 2) ?a :v ?n }");
        gives("<x> <y> 3 / <x> <z> 3 / <y> <z> 1.5", "SELECT * WHERE { ?a :p ?b { SELECT ?a ?n WHERE { ?a :v ?n } } }");
        gives("<x> <y> / <x> <z> / <y> <z>", "SELECT * WHERE { ?a :p ?b { SELECT ?a WHERE { ?a :v ?b } ORDER BY ?b } }");
        about("6 WHAT A SELECT GIVES");
        answers(7, FACTS);
        gives("<x> 2 / <y> 1", "SELECT ?a (COUNT(*) AS ?n) WHERE { ?a :p ?b } GROUP BY ?a");
        gives("<x> 2", "SELECT ?a (COUNT(*) AS ?n) WHERE { ?a :p ?b } GROUP BY ?a HAVING (COUNT(*) > 1)");
        gives("0 0 0 - - \"\"", "SELECT (COUNT(*) AS ?n) (SUM(?b) AS ?s) (AVG(?b) AS ?a) (MIN(?b) AS ?i) (MAX(?b) AS ?x) (GROUPCONCAT(?b) AS ?g) WHERE { ?z :zz ?b }");
        gives("- 1.5 \"ab\" 3", "SELECT (SUM(?n) AS ?s) (MIN(?n) AS ?i) (MAX(?n) AS ?x) (COUNT(?n) AS ?c) WHERE { ?a :v ?n }");
        gives("4.5 2.25 \"1.5,3\"", "SELECT (SUM(?n) AS ?s) (AVG(?n) AS ?m) (GROUPCONCAT(?n ; \",\") AS ?g) WHERE { ?a :v ?n FILTER (ISNUMERIC(?n)) }");
        gives("2 3", "SELECT (COUNT(DISTINCT ?a) AS ?n) (COUNT(DISTINCT *) AS ?m) WHERE { ?a :p ?b }");
        gives("3.0", "SELECT (AVG(?b) AS ?n) WHERE { VALUES ?b { 3 } }");
        gives("2 3 \"1,2\" \"1,1,2\"", "SELECT (COUNT(DISTINCT ?b) AS ?n) (SUM(DISTINCT ?b) AS ?s) (GROUPCONCAT(DISTINCT ?b ; \",\") AS ?g)"
            + " (GROUPCONCAT(?b ; \",\") AS ?h) WHERE { VALUES ?b { 1 2 \"1\"^^<whole> } }");
        gives("\"a b 9 10\"", "SELECT (GROUPCONCAT(?b) AS ?g) WHERE { VALUES ?b { 10 9 :b :a } }");
        gives("\"x\" 2 / \"y\" 1", "SELECT ?s (COUNT(*) AS ?n) WHERE { ?a :p ?b } GROUP BY (STR(?a) AS ?s)");
        gives("", "SELECT (COUNT(*) AS ?n) WHERE { ?a :zz ?b } GROUP BY ?a");
        answers(1, "ASK { BIND (1 AS ?a) FILTER EXISTS { BIND (2 AS ?a) FILTER (?a = 1) } }");
        answers(3, "DELETE { ?a :p ?b } WHERE { ?a :p ?b }");
        answers(4, "INSERT { ?a :w ?n . ?n :w ?a . ?a ?n ?a . _:b :w _:b } WHERE { ?a :v ?n }");
    }

    private static void paths() {
        about("PATHS");
        answers(6, "INSERT DATA { :a :p :b , :c . :b :q :d . :c :q :d . :d :p :a . :a :v 1 }");
        gives("<d> / <d>", "SELECT ?y WHERE { :a :p/:q ?y }");
        gives("<b> / <c>", "SELECT ?x WHERE { ?x ^:p :a }");
        gives("<a> / <b> / <c> / <d>", "SELECT ?y WHERE { :a (:p|:q)+ ?y }");
        gives("<a> / <d>", "SELECT ?y WHERE { :a (:p/:q)? ?y }");
        gives("1", "SELECT ?y WHERE { :a !(:p|:q) ?y }");
        gives("<a>", "SELECT ?y WHERE { ?y :v+ 1 }");
        gives("<d>", "SELECT ?y WHERE { :a !(^:q|^:v) ?y }");
        gives("<new>", "SELECT ?y WHERE { :new :p* ?y }");
        gives("", "SELECT ?y WHERE { :new :p+ ?y }");
        gives("<a> / <b> / <c> / <d> / 1", "SELECT ?y WHERE { ?y :zz* ?y }");
        answers(1, "ASK { :new :p* :new }");
        answers(0, "ASK { :new :p* :other }");
        failsAt(3, "ASK { ?a " + repeat(":p", "/", 10) + "/@@:q ?b }");
        failsAt(3, "ASK { ?a ((((((@@(:p))))))) ?b }");
    }
}
