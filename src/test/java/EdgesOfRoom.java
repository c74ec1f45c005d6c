/** ROOM of parts 2 and 4, and the numbers of part 7: each of them when it is full, and with one more. */
public final class EdgesOfRoom extends Check {
    public static void main(String[] args) {
        variables();
        variablesAnywhere();
        nodes();
        nodesOfEachKind();
        nodesThatAreNone();
        groups();
        groupsWithin();
        groupsWithinOfEachKind();
        brackets();
        bracketsOfEachKind();
        bracketsBeginAgain();
        signs();
        patterns();
        lines();
        steps();
        stepsOfEachKind();
        pathBrackets();
        items();
        keys();
        given();
        columns();
        triples();
        triplesThatFollow();
        triplesThatGoAndCome();
        terms();
        termsOfRules();
        theLastTerm();
        rules();
        choices();
        choicesOfEachLength();
        choicesOfAllRules();
        whatFollowedHolds();
        numbersAreGivenAgain();
        numbersOfManyStay();
        made();
        madeByFacts();
        life();
        lifeOfFaults();
        madeBySix();
        termsMade();
        termsMadeOfItemsAndKeys();
        bytesMade();
        finish();
    }

    /** A text that a statement has room for, and the same with one more that it has not. */
    private static void last(String whole, String marked) {
        fresh();
        int answer = run(whole);
        due(whole + " is no fault", true, answer >= 0 || answer == -105);
        failsAt(3, marked);
    }

    private static String ones(int many) {
        return repeat("1", ",", many);
    }

    // Part 4.

    private static void variables() {
        about("ROOM: 24 variables, at the VAR");
        String all = "ASK { VALUES ?v { 1 } " + repeat("?v :p ?v#", " ", 23);
        last(all + " }", all + " ?v :p @@?x }");
        last(all + " ?v :p ?v22 }", all + " FILTER (BOUND(@@?x)) }");
        last(all + " }", all + " BIND (1 AS @@?x) }");
        last(all + " }", all + " VALUES @@?x { 1 } }");
        last(all + " }", all + " VALUES (?v @@?x) { } }");
        last(all + " }", all + " ?v @@?x 1 }");
        last(all + " }", all + " @@?x :p 1 }");
        last(all + " }", all + " FILTER EXISTS { @@?x :p 1 } }");
    }

    private static void variablesAnywhere() {
        about("ROOM: 24 variables, of all sorts together");
        String select = "SELECT ?a (1 AS ?b) WHERE { " + repeat("?v# :p ?w#", " ", 10) + " } ";
        last(select + "ORDER BY ?c ?d", select + "ORDER BY ?c ?d @@?e");
        String grouped = "SELECT (COUNT(?a) AS ?b) WHERE { " + repeat("?v# :p ?w#", " ", 10) + " } GROUP BY ";
        last(grouped + "?c (1 AS ?d)", grouped + "?c (1 AS ?d) @@?e");
        String facts = "INSERT { " + repeat("?v# :p ?w#", " . ", 12);
        last(facts + " } WHERE { }", facts + " } WHERE { @@?x :p 1 }");
        last(facts + " } WHERE { }", facts + " . @@?x :p 1 } WHERE { }");
        last("SELECT * WHERE { " + repeat("?v# :p ?w#", " ", 12) + " { SELECT ?v0 WHERE { } } }",
            "SELECT * WHERE { " + repeat("?v# :p ?w#", " ", 12) + " { SELECT @@?x WHERE { } } }");
        about("ROOM: the 24th variable is as good as the first");
        gives("1 2", "SELECT ?v0 ?v23 WHERE { VALUES (" + repeat("?v#", " ", 8) + ") { (1 UNDEF UNDEF UNDEF UNDEF UNDEF UNDEF UNDEF) } "
            + repeat("BIND (3 AS ?x#)", " ", 15) + " BIND (?v0 + 1 AS ?v23) }");
    }

    private static void nodes() {
        about("ROOM: 200 nodes of expressions, at the token that counts");
        last("ASK { FILTER (1 IN (" + ones(198) + ")) }", "ASK { FILTER (1 IN (" + ones(198) + ",@@1)) }");
        last("ASK { FILTER (1" + bytes("+1", 99) + ") }", "ASK { FILTER (1" + bytes("+1", 99) + "+@@1) }");
        last("ASK { FILTER (-?a" + bytes("+1", 99) + ") }", "ASK { FILTER (-?a" + bytes("+1", 99) + "@@+1) }");
        String full = "ASK { FILTER (1 IN (" + ones(197) + ")) FILTER (";
        last(full + "1) }", full + "1 @@+ 1) }");
        last(full + "((1))) }", full + "((1))) FILTER (@@1) }");
        last(full + "?x) }", full + "?x) BIND (@@?x AS ?y) }");
    }

    private static void nodesOfEachKind() {
        about("ROOM: nodes are each TERM and VAR, sign of an operator, IN, EXISTS, word of a function, aggregate, BOUND");
        String left = "SELECT (1 IN (" + ones(195) + ") AS ?n) (";
        // 197 nodes; three are left.
        String[] threes = {"1+1", "1-1", "1*1", "1/1", "1=1", "1!=1", "1<1", "1>1", "1<=1", "1>=1", "1||1", "1&&1", "- - 1",
            "!!1", "!?x||1", "1 IN (1)", "1 NOT IN (1)", "?x NOT IN ()||1", "ABS(ABS(1))", "CONCAT(1,1)", "CONCAT()+CONCAT()",
            "!BOUND(?x)", "((BOUND(?x)))||1", "EXISTS{}||1", "NOT EXISTS{}||1", "!!EXISTS{}", "COUNT(*)+1", "COUNT(DISTINCT *)+1",
            "SUM(- 1)", "MIN(DISTINCT !1)", "GROUPCONCAT(- 1;\"\")", "-COUNT(1)", "-SAMPLE(1)", "-MAX(1)", "-AVG(1)"};
        for (String three : threes) {
            fresh();
            int nodes = three.equals("!?x||1") || three.startsWith("?x NOT") || three.startsWith("((BOUND") ? 4 : 3;
            if (nodes == 3) {
                answers(1, left + three + " AS ?m) WHERE { }");
                failsAt(3, left + three + " @@|| 1 AS ?m) WHERE { }");
            } else {
                failsAt(3, left + three.substring(0, three.length() - 1) + "@@1 AS ?m) WHERE { }");
            }
        }
    }

    private static void nodesThatAreNone() {
        about("ROOM: NOT with IN or EXISTS, the * of COUNT, the TEXT of GROUPCONCAT, a VAR that is an item or key alone are none");
        String full = "SELECT ?a (1 NOT IN (" + ones(190) + ") AS ?n) (COUNT(*) AS ?c) (GROUPCONCAT(1;\"\") AS ?d) (NOT EXISTS { } AS ?e) ";
        // 192, 1, 2 and 1.
        last(full + "(1+!1 AS ?g) WHERE { } GROUP BY ?a ?b ORDER BY ?a ?b ?c",
            full + "(1+!1 AS ?g) WHERE { } GROUP BY ?a ?b ORDER BY ?a ?b (@@1)");
        about("ROOM: the EXISTS of FILTER EXISTS is a node");
        String filters = "ASK { FILTER (1 IN (" + ones(197) + ")) ";
        last(filters + "FILTER EXISTS { } }", filters + "FILTER EXISTS { } FILTER @@EXISTS { } }");
        last(filters + "FILTER NOT EXISTS { } }", filters + "FILTER NOT EXISTS { } FILTER (@@1) }");
    }

    private static void groups() {
        about("ROOM: 40 groups, at {");
        last("ASK { " + bytes("{ }", 39) + " }", "ASK { " + bytes("{ }", 39) + " @@{ } }");
        last("ASK { " + bytes("OPTIONAL { }", 39) + " }", "ASK { " + bytes("MINUS { }", 39) + " OPTIONAL @@{ } }");
        last("ASK { " + repeat("{ }", " UNION ", 39) + " }", "ASK { " + repeat("{ }", " UNION ", 39) + " UNION @@{ } }");
        last("ASK { " + bytes("FILTER EXISTS { }", 39) + " }", "ASK { " + bytes("{ }", 39) + " FILTER (EXISTS @@{ }) }");
        last("ASK { " + bytes("{ }", 36) + "{ SELECT ?a WHERE { } } { } }", "ASK { " + bytes("{ }", 38) + "{ SELECT ?a WHERE @@{ } } }");
        last("SELECT (EXISTS { } AS ?a) WHERE { " + bytes("{ }", 38) + " }", "SELECT (EXISTS { } AS ?a) WHERE { " + bytes("{ }", 38) + " @@{ } }");
        last("INSERT { :a :p 1 } WHERE { " + bytes("{ }", 39) + " }", "INSERT { :a :p 1 } WHERE { " + bytes("{ }", 39) + " @@{ } }");
    }

    private static void groupsWithin() {
        about("ROOM: 8 groups in one another, at {");
        last("ASK " + bytes("{ ", 8) + bytes("} ", 8), "ASK " + bytes("{ ", 8) + "@@{ " + bytes("} ", 9));
        last("ASK { " + bytes("OPTIONAL { ", 7) + bytes("} ", 8), "ASK { " + bytes("OPTIONAL { ", 7) + "OPTIONAL @@{ }");
        last("SELECT ?a WHERE " + bytes("{ ", 8) + bytes("} ", 8), "SELECT ?a WHERE " + bytes("{ ", 8) + "@@{ }");
        answers(1, "ASK { " + bytes("{ ", 7) + bytes("} ", 7) + bytes("{ ", 7) + bytes("} ", 8));
        failsAt(3, "ASK { { { { { { { { } } } } } } " + bytes("{ ", 6) + "@@{ }");
    }

    private static void groupsWithinOfEachKind() {
        about("ROOM: 8 groups in one another, with those in EXISTS and those of SELECTs");
        last("ASK { " + bytes("FILTER EXISTS { ", 7) + bytes("} ", 8), "ASK { " + bytes("FILTER NOT EXISTS { ", 7) + "FILTER EXISTS @@{ }");
        last("ASK { " + bytes("FILTER (EXISTS { ", 7) + bytes("} ) ", 7) + "}", "ASK { " + bytes("FILTER (EXISTS { ", 7) + "FILTER (EXISTS @@{ }");
        last("SELECT ?a WHERE { " + bytes("SELECT ?a WHERE { ", 7) + bytes("} ", 8),
            "SELECT ?a WHERE { " + bytes("SELECT ?a WHERE { ", 7) + "SELECT ?a WHERE @@{ }");
        last("SELECT (EXISTS " + bytes("{ ", 8) + bytes("} ", 8) + "AS ?a) WHERE { }", "SELECT (EXISTS " + bytes("{ ", 8) + "@@{ }");
        last("SELECT (1 AS ?a) WHERE { } HAVING (EXISTS " + bytes("{ ", 8) + bytes("} ", 8) + ")",
            "SELECT ?a WHERE { } ORDER BY (EXISTS " + bytes("{ ", 8) + "@@{ }");
        last("ASK { " + bytes("{ ", 5) + "{ SELECT (EXISTS { } AS ?a) WHERE { } }" + bytes("} ", 6),
            "ASK { " + bytes("{ ", 5) + "{ SELECT (EXISTS { @@{ } } AS ?a) WHERE { } }" + bytes("} ", 6));
        last("ASK { FILTER (EXISTS { FILTER (1) } && EXISTS " + bytes("{ ", 7) + bytes("} ", 7) + ") }",
            "ASK { FILTER (EXISTS { FILTER (1) } && EXISTS " + bytes("{ ", 7) + "@@{ }");
        last("ASK { BIND (EXISTS { { MINUS { { OPTIONAL { { { } } } } } } } AS ?x) }",
            "ASK { BIND (EXISTS { { MINUS { { OPTIONAL { { { @@{ } } } } } } } } AS ?x) }");
    }

    private static void brackets() {
        about("ROOM: 8 brackets of expressions in one another, with those of items, BIND, FILTER, HAVING and keys");
        String eight = bytes("(", 8) + "1" + bytes(")", 8);
        String nine = bytes("(", 8) + "@@(1" + bytes(")", 9);
        String seven = bytes("(", 7) + "1" + bytes(")", 7);
        String more = bytes("(", 7) + "@@(1" + bytes(")", 8);
        last("ASK { FILTER " + eight + " }", "ASK { FILTER " + nine + " }");
        last("ASK { BIND (" + seven + " AS ?a) }", "ASK { BIND (" + more + " AS ?a) }");
        last("SELECT (" + seven + " AS ?a) WHERE { }", "SELECT (" + more + " AS ?a) WHERE { }");
        last("SELECT ?a WHERE { } GROUP BY (" + seven + " AS ?a)", "SELECT ?a WHERE { } GROUP BY (" + more + " AS ?a)");
        last("SELECT (1 AS ?a) WHERE { } HAVING " + eight, "SELECT (1 AS ?a) WHERE { } HAVING " + nine);
        last("SELECT ?a WHERE { } ORDER BY " + eight, "SELECT ?a WHERE { } ORDER BY " + nine);
        last("SELECT ?a WHERE { } ORDER BY DESC" + eight, "SELECT ?a WHERE { } ORDER BY ASC" + nine);
        last("ASK { FILTER (" + seven + "+" + seven + ") }", "ASK { FILTER (" + seven + "+" + more + ") }");
    }

    private static void bracketsOfEachKind() {
        about("ROOM: 8 brackets in one another, with those of functions, BOUND, IN, aggregates");
        last("ASK { FILTER (" + bytes("ABS(", 7) + "1" + bytes(")", 8) + " }", "ASK { FILTER (" + bytes("ABS(", 7) + "ABS@@(1");
        last("ASK { FILTER (" + bytes("(", 6) + "BOUND(?a)" + bytes(")", 7) + " }", "ASK { FILTER (" + bytes("(", 7) + "BOUND@@(?a");
        last("ASK { FILTER (" + bytes("1 IN (", 7) + "1" + bytes(")", 8) + " }", "ASK { FILTER (" + bytes("1 IN (", 7) + "1 IN @@(1");
        last("ASK { FILTER (" + bytes("1 IN (", 6) + "1 IN ()" + bytes(")", 7) + " }", "ASK { FILTER (" + bytes("1 IN (", 7) + "1 NOT IN @@()");
        last("SELECT (" + bytes("(", 6) + "SUM(1" + bytes(")", 7) + " AS ?a) WHERE { }", "SELECT (" + bytes("(", 7) + "SUM@@(1");
        last("SELECT (SUM(" + bytes("(", 6) + "1" + bytes(")", 7) + " AS ?a) WHERE { }", "SELECT (SUM(" + bytes("(", 6) + "@@(1");
        last("SELECT (" + bytes("(", 6) + "COUNT(*" + bytes(")", 7) + " AS ?a) WHERE { }", "SELECT (" + bytes("(", 7) + "COUNT@@(*");
        last("ASK { FILTER (" + bytes("(", 6) + "CONCAT()" + bytes(")", 7) + " }", "ASK { FILTER (" + bytes("(", 7) + "CONCAT@@()");
        last("ASK { FILTER (IF((1),(2),((((((1))))))+1)) }", "ASK { FILTER (IF((1),(2),((((((@@(1");
    }

    private static void bracketsBeginAgain() {
        about("ROOM: brackets, in a group within from nothing again");
        last("ASK { FILTER (((((((EXISTS { FILTER ((((((((1)))))))) } ))))))) }",
            "ASK { FILTER (((((((EXISTS { FILTER ((((((((@@(1");
        last("ASK { FILTER (((((((EXISTS { } + (1)))))))) }", "ASK { FILTER ((((((((EXISTS { } + @@(1");
        last("ASK { FILTER (((((((EXISTS { FILTER (1) } + (1)))))))) }", "ASK { FILTER ((((((((EXISTS { FILTER (1) } + @@(1");
        last("ASK { FILTER (EXISTS { FILTER (((((((1))))))) } + (((((((1)))))))) }", "ASK { FILTER (EXISTS { FILTER (1) } + (((((((@@(1");
        last("ASK { FILTER (((((((EXISTS { SELECT (" + bytes("(", 7) + "1" + bytes(")", 7) + " AS ?a) WHERE { } } ))))))) }",
            "ASK { FILTER (((((((EXISTS { SELECT (" + bytes("(", 7) + "@@(1");
    }

    private static void signs() {
        about("ROOM: 4 signs ! and - before one value");
        last("ASK { FILTER (!!!!1) }", "ASK { FILTER (!!!!@@!1) }");
        last("ASK { FILTER (- - - - 1) }", "ASK { FILTER (- - - - @@- 1) }");
        last("ASK { FILTER (!- ! - ?a) }", "ASK { FILTER (!- ! - @@!?a) }");
        last("ASK { FILTER (- - - - -1) }", "ASK { FILTER (- - - - @@-(1)) }");
        last("ASK { FILTER (!!!!(!!!!1)) }", "ASK { FILTER (!!!!(!!!!@@!1)) }");
        last("ASK { FILTER (!!!!1 + !!!!1) }", "ASK { FILTER (!!!!1 - !!!!@@!1) }");
        last("ASK { FILTER (!!!!ABS(!!!!1)) }", "ASK { FILTER (ABS(!!!!@@!1)) }");
        last("ASK { FILTER (1 IN (!!!!1, !!!!1)) }", "ASK { FILTER (1 IN (!!!!1, !!!!@@!1)) }");
        last("ASK { FILTER (!!!!EXISTS { }) }", "ASK { FILTER (!!!!@@!NOT EXISTS { }) }");
        last("ASK { FILTER (!!!!EXISTS { FILTER (!!!!1) }) }", "ASK { FILTER (!!!!EXISTS { FILTER (!!!!@@!1");
        last("ASK { FILTER (1 = !!!!1 && !!!!1 || !!!!1) }", "ASK { FILTER (1 * !!!!@@!1) }");
    }

    private static void patterns() {
        about("ROOM: 7 patterns in a block, at the object");
        String seven = "ASK { " + repeat("?a :p #", " . ", 7);
        last(seven + " }", seven + " . ?a :p @@7 }");
        last(seven + " . ?a ^:p 7 ; :p+ 8 , 9 }", seven + " ; :p @@7 }");
        last("ASK { ?a :p 0,1,2,3,4,5,6 }", "ASK { ?a :p 0,1,2,3,4,5,6,@@7 }");
        last(seven + " ?a :p 7 }", seven + " . ?a ^:p 7 ; ?b @@8 }");
        last(seven + " . FILTER (1) ?a :p 7 }", seven + " . ?a a @@?b }");
        last(seven + " ?a :p 7 , 8 , 9 , 10 , 11 , 12 , 13 }", seven + " ?a :p 7 , 8 , 9 , 10 , 11 , 12 , 13 , @@14 }");
        last(seven + " OPTIONAL { ?a :p 7 } }", seven + " OPTIONAL { ?a :p 0,1,2,3,4,5,6,@@7 } }");
        fresh();
        failsAt(2, seven + " . ?a :p @@}");
        failsAt(2, seven + " . ?a @@7 8 }");
    }

    private static void lines() {
        about("ROOM: 40 lines' patterns and path lines in all, at the object");
        String paths = "ASK { ?a ^:p " + repeat("#", ",", 40);
        last(paths + " }", paths + ",@@40 }");
        String blocks = "ASK { " + repeat("?a :p #", " ", 40);
        last(blocks + " }", blocks + " ?a :p @@40 }");
        last(blocks + " }", blocks + " ?a ^:p @@40 }");
        last(blocks + " }", blocks + " FILTER EXISTS { ?a :p @@40 } }");
        String within = "SELECT (EXISTS { " + repeat("?a ^:p #", " . ", 20) + " } AS ?x) WHERE { " + repeat("?a :p #", " ", 20);
        last(within + " }", within + " OPTIONAL { ?a :p @@1 } }");
        last(within + " }", within + " } ORDER BY (EXISTS { ?a :p @@1 })");
        fresh();
        answers(0, "INSERT { " + repeat("?a :p #", " . ", 41) + " } WHERE { " + repeat("?a :p #", " ", 40) + " }");
    }

    private static void steps() {
        about("ROOM: each path with 20 steps and signs, at the token that counts");
        String nineteen = "ASK { ?a " + repeat(":p", "/", 10);
        last(nineteen + "* ?b }", nineteen + "*@@/:p ?b }");
        last(nineteen + " ?b }", nineteen + "/@@:p ?b }");
        last(nineteen + "+ ?b }", "ASK { ?a ^" + repeat(":p", "|", 10) + "@@+ ?b }");
        last(nineteen + "* ?b ; " + repeat(":q", "/", 10) + "? ?c }", nineteen + "* ?b ; " + repeat(":q", "|", 10) + "*@@|:q ?c }");
        last(nineteen + "* ?b , ?c , ?d }", nineteen + "* ?b . ?a " + repeat(":q", "/", 10) + "/@@^:q ?c }");
        fresh();
        failsAt(2, nineteen + "/@@?b }");
        failsAt(2, nineteen + "+@@* ?b }");
    }

    private static void stepsOfEachKind() {
        about("ROOM: each NAME, /, |, ^, *, +, ?, ! is one; brackets are none");
        String four = "(:p/:p/:p|:p)";
        // 7 each, with a sign between 8.
        last("ASK { ?a " + four + "/" + four + "/(:p/a) ?b }", "ASK { ?a " + four + "/" + four + "/(:p/:p/@@:p) ?b }");
        last("ASK { ?a " + four + "/" + four + "/:p*/a ?b }", "ASK { ?a " + four + "/" + four + "/:p*/a@@+ ?b }");
        last("ASK { ?a " + four + "/" + four + "/!^:p? ?b }", "ASK { ?a " + four + "/" + four + "/!^:p?@@/a ?b }");
        last("ASK { ?a !(" + repeat(":p", "|", 9) + "|a) ?b }", "ASK { ?a !(" + repeat(":p", "|", 9) + "|^@@a) ?b }");
        last("ASK { ?a ^!(" + repeat(":p", "|", 9) + ")* ?b }", "ASK { ?a ^!(" + repeat(":p", "|", 9) + "|@@a) ?b }");
        last("ASK { ?a !(" + repeat("^:p", "|", 6) + "|a) ?b }", "ASK { ?a !(" + repeat("^:p", "|", 6) + "|a@@|a) ?b }");
    }

    private static void pathBrackets() {
        about("ROOM: 6 brackets of a path in one another (those behind ! too)");
        last("ASK { ?a ((((((:p)))))) ?b }", "ASK { ?a ((((((@@(:p))))))) ?b }");
        last("ASK { ?a (((((!(:p)))))) ?b }", "ASK { ?a ((((((!@@(:p))))))) ?b }");
        last("ASK { ?a ((((((:p)*)*)*)*)*)* ?b }", "ASK { ?a ((((((:p)*)*)*)*)*)*/((((((@@(:p");
        last("ASK { ?a ((((((:p))))))/((((((:q)))))) ?b }", "ASK { ?a ((((((:p))))))|^((((((^@@(:p");
        last("ASK { ?a ((((((:p)))))) ?b ; ((((((:q)))))) ?c }", "ASK { ?a (((((!(:q)/!(:p|a)/(@@(:p");
        last("ASK { ?a (((((!(:q)/!(:p|a))))))/!(:p) ?b }", "ASK { ?a (((((!(:q)/!(:p))))))/((((((@@(:p");
    }

    private static void items() {
        about("ROOM: 12 items (of a SELECT, and of a GROUP BY), at their VAR or (");
        String twelve = "SELECT " + repeat("?v#", " ", 12);
        last(twelve + " WHERE { }", twelve + " @@?x WHERE { }");
        last(twelve + " WHERE { }", twelve + " @@(1 AS ?x) WHERE { }");
        last(twelve + " WHERE { }", twelve + " @@?v0 WHERE { }");
        String values = "SELECT " + repeat("(1 AS ?v#)", " ", 12);
        last(values + " WHERE { }", values + " @@(");
        String by = "SELECT ?v0 WHERE { } GROUP BY " + repeat("?v#", " ", 12);
        last(by, by + " @@?v12");
        last(by, by + " @@(1 AS ?v12)");
        last(twelve + " WHERE { } GROUP BY " + repeat("?v#", " ", 12), twelve + " WHERE { } GROUP BY " + repeat("?v#", " ", 12) + " @@?x");
        last("SELECT " + repeat("?v#", " ", 12) + " WHERE { SELECT " + repeat("?w#", " ", 12) + " WHERE { } }",
            "SELECT ?v0 WHERE { SELECT " + repeat("?w#", " ", 12) + " @@?w12 WHERE { } }");
        fresh();
        failsAt(2, twelve + " @@5 WHERE { }");
    }

    private static void keys() {
        about("ROOM: 6 keys, at their first token");
        String six = "SELECT ?a WHERE { } ORDER BY ";
        last(six + repeat("?a", " ", 6), six + repeat("?a", " ", 6) + " @@?a");
        last(six + repeat("(1)", " ", 6), six + repeat("(1)", " ", 6) + " @@(1)");
        last(six + repeat("DESC(1)", " ", 6), six + repeat("ASC(1)", " ", 6) + " @@DESC(1)");
        last(six + repeat("?a", " ", 6) + " LIMIT 1", six + "?a (1) ASC(1) DESC(1) ?b (2) @@ASC");
        fresh();
        failsAt(2, six + repeat("?a", " ", 6) + " @@5");
        failsAt(2, six + repeat("?a", " ", 6) + " @@ORDER BY ?a");
    }

    private static void given() {
        about("ROOM: 40 times a term (or UNDEF) given by VALUES in all, at it");
        String forty = "ASK { VALUES ?a { " + repeat("#", " ", 40);
        last(forty + " } }", forty + " @@40 } }");
        last(forty + " } }", forty + " @@UNDEF } }");
        last("ASK { VALUES ?a { " + repeat("1", " ", 40) + " } }", "ASK { VALUES ?a { " + repeat("1", " ", 40) + " @@1 } }");
        last(forty + " } VALUES ?b { } VALUES (?b ?c) { } }", forty + " } VALUES (?b ?c) { (@@1 2) } }");
        String pairs = "ASK { VALUES (?a ?b) { " + repeat("(# UNDEF)", " ", 19);
        last(pairs + " } VALUES ?c { 1 2 } }", pairs + " } VALUES ?c { 1 2 @@3 } }");
        last(pairs + " (1 2) } }", pairs + " (1 2) (@@3 4) } }");
        last(pairs + " } FILTER EXISTS { VALUES ?c { 1 2 } } }", pairs + " } FILTER EXISTS { VALUES ?c { 1 2 @@3 } } }");
        fresh();
        failsAt(2, forty + " @@?b } }");
        failsAt(2, forty + " } VALUES (?b) { (@@) } }");
    }

    private static void columns() {
        about("ROOM: 8 columns of a VALUES");
        String eight = "ASK { VALUES (" + repeat("?v#", " ", 8);
        last(eight + ") { } }", eight + " @@?v8) { } }");
        last(eight + ") { (1 2 3 4 5 6 7 8) } }", eight + " @@?v7) { } }");
        gives("1 8", "SELECT ?v0 ?v7 WHERE { VALUES (" + repeat("?v#", " ", 8) + ") { (1 2 3 4 5 6 7 8) } }");
        fresh();
        failsAt(2, eight + " @@8) { } }");
    }

    // Part 2.

    /** So many times ten triples, :x0 .. and :p0 .. with 0 .. 9. */
    private static String product(int xs, int ps) {
        return "INSERT { ?x ?p ?y } WHERE { VALUES ?x { " + repeat(":x#", " ", xs) + " } VALUES ?p { " + repeat(":p#", " ", ps)
            + " } VALUES ?y { 0 1 2 3 4 5 6 7 8 9 } }";
    }

    private static void triples() {
        about("ROOM: at most 2000 triples hold");
        answers(2000, product(20, 10));
        due("full", "2000 2000 40 0", state());
        fails(6, 0, "INSERT DATA { :x0 :p0 :x0 }");
        fails(6, 0, "INSERT { ?x :p0 ?x } WHERE { ?x :p0 1 }");
        answers(0, "INSERT DATA { :x0 :p0 1 }");
        fails(6, 0, "RULE { ?x :p0 1 } => { ?x :p0 ?x }");
        answers(0, "RULE { ?x :p0 1 } => { ?x :p1 1 }");
        due("still", "2000 2000 40 1", state());
        answers(1, "DELETE DATA { :x0 :p1 2 }");
        answers(1, "INSERT DATA { :x0 :p0 :x0 }");
        due("full again", "2000 2000 40 1", state());
        due("the last one is said", 1, store().find(0, 1999, 3));
        due("behind it", BAD, store().find(0, 2000, 0));
        due("all orderings", "2000 2000", store().count(5, 0, 0, 0, 0) + " " + store().count(0, 0, 0, 0, 0));
    }

    private static void triplesThatFollow() {
        about("ROOM: triples that follow count too");
        answers(0, "RULE { ?x :p0 ?y } => { ?x :q ?y }");
        answers(1800, product(18, 10));
        due("180 follow", "1980 1800", store().triples() + " " + store().said());
        answers(10, "INSERT DATA { :y :p0 0,1,2,3,4,5,6,7,8,9 }");
        due("full", "2000 1810", store().triples() + " " + store().said());
        fails(6, 0, "INSERT DATA { :y :p1 0 }");
        fails(6, 0, "INSERT DATA { :y :p0 :y }");
        answers(1, "INSERT DATA { :y :q 0 }");
        due("it held", "2000 1811", store().triples() + " " + store().said());
        answers(1, "DELETE DATA { :y :p0 1 }");
        fails(6, 0, "INSERT DATA { :y :p1 0 , 1 , 2 }");
        answers(2, "INSERT DATA { :y :p1 0 , 1 }");
        due("full again", "2000 1812", store().triples() + " " + store().said());
        answers(0, "UNRULE 0");
        due("nothing follows", "1812 1812", store().triples() + " " + store().said());
    }

    private static void triplesThatGoAndCome() {
        about("ROOM: what holds behind the statement counts");
        answers(2000, product(20, 10));
        answers(2, "DELETE { :x0 :p0 1 } INSERT { :x0 :p0 :new } WHERE { }");
        due("full", "2000 2000 41 0", state());
        fails(6, 0, "DELETE { :x0 :p0 2 } INSERT { :x0 :p0 :n1 , :n2 } WHERE { }");
        due("nothing went", "2000 2000 41 0", state());
        answers(2, "DELETE { :x0 :p0 2 } INSERT { :x0 :p0 2 } WHERE { }");
        answers(0, "RULE { :x0 :p0 3 } => { :x0 :p0 4 }");
        answers(2, "DELETE { :x0 :p0 4 } INSERT { :x0 :p0 4 } WHERE { }");
        answers(1, "DELETE DATA { :x0 :p0 4 }");
        due("it follows", "2000 1999", store().triples() + " " + store().said());
        fails(6, 0, "INSERT DATA { :x0 :p0 :n3 }");
        answers(1, "DELETE DATA { :x0 :p0 3 }");
        due("two go", "1998 1998", store().triples() + " " + store().said());
    }

    /** Numbers from one on, so many times twenty, are objects of :a :p. */
    private static String numbers(int from, int twenties) {
        return "INSERT { :a :p ?n } WHERE { VALUES ?x { " + repeat("#", " ", twenties) + " } VALUES ?y { " + repeat("#", " ", 20)
            + " } BIND (?x * 20 + ?y + " + from + " AS ?n) }";
    }

    private static void terms() {
        about("ROOM: 800 terms have numbers");
        answers(400, numbers(0, 20));
        answers(380, numbers(400, 19));
        due("782", 782, store().terms());
        fails(6, 0, numbers(780, 1));
        due("still 782", "780 780 782 0", state());
        answers(18, "INSERT DATA { :a :p " + range(901, 918, ",") + " }");
        due("full", "800", store().terms());
        fails(6, 0, "INSERT DATA { :a :p 5000 }");
        fails(6, 0, "INSERT DATA { :b :p 5 }");
        fails(6, 0, "INSERT DATA { :a :q 5 }");
        answers(1, "INSERT DATA { :a :p :a }");
        answers(0, "DELETE DATA { :b :q 5000 }");
        answers(1, "DELETE DATA { :a :p 5 }");
        due("it keeps its number", 800, store().terms());
        answers(798, "CLEAR");
        due("all keep theirs", "0 0 800 0", state());
        fails(6, 0, "INSERT DATA { :a :p 5000 }");
        answers(1, "INSERT DATA { :a :p 5 }");
        gives("5000 5", "SELECT ?x ?y WHERE { VALUES ?x { 5000 } :a :p ?y }");
    }

    private static void termsOfRules() {
        about("ROOM: 800 terms have numbers, those in rules too");
        answers(400, numbers(0, 20));
        answers(380, numbers(400, 19));
        answers(0, "RULE { ?a :q0 1000 . ?a :q1 1001 . ?a :q2 1002 . ?a :q3 1003 } => { ?a :q4 1004 . ?a :q5 1005 . ?a :q6 1006 }");
        due("14 more", 796, store().terms());
        fails(6, 0, "RULE { :b :c :d } => { :e :f :g }");
        due("nothing stays", "796 1", store().terms() + " " + store().rules());
        answers(1, "RULE { :b :c :d } => { :e :p 5 }");
        due("full", "800 2", store().terms() + " " + store().rules());
        fails(6, 0, "RULE { :b :c :x } => { :e :p 5 }");
        answers(2, "RULE { ?b :c :d } => { :e :p ?b }");
        answers(2, "UNRULE 0");
        due("its terms keep theirs", 800, store().terms());
    }

    private static void theLastTerm() {
        about("ROOM: the 800th term is as good as the first");
        answers(400, numbers(0, 20));
        answers(380, numbers(400, 19));
        answers(15, "INSERT DATA { :a :p " + range(901, 915, ",") + " }");
        answers(7, "INSERT DATA { :x :y :z . :z :z :z . :z :y 5 . :y :z :z . :a :x 5 . :p :x 5 . :x :x 5 }");
        due("full", "800 <z>", store().terms() + " " + written(store().term(800)));
        due("behind it", BAD, store().term(801));
        gives("<y> 5 / <z> <z>", "SELECT * WHERE { :z ?b ?c }");
        gives("<x> <y> / <y> <z> / <z> <z>", "SELECT * WHERE { ?a ?b :z }");
        gives("<y> <z> / <z> <z>", "SELECT * WHERE { ?a :z ?c }");
        gives("<z>", "SELECT * WHERE { ?a ?a ?a }");
        gives("<z>", "SELECT * WHERE { :z :z ?a }");
        gives("<z> / 5", "SELECT * WHERE { :x :y/(:y|:z) ?a }");
        gives("<x> / <z>", "SELECT * WHERE { ?a :y* :z }");
        gives("<new>", "SELECT * WHERE { :new :z* ?a }");
        gives("<y> / <z>", "SELECT * WHERE { :x :y/^:z ?a }");
        gives("<y> / <z>", "SELECT * WHERE { :y :z* ?a }");
        answers(1, "ASK { ?a :z ?b . ?d :x ?c }");
        answers(0, "ASK { ?a :z ?b . ?a :x ?c }");
        // z: 2, 1 when ?a is known; x: 3, and 1. (z, x): 2 + 2; (x, z): 3 + 3.
        due("plan", "0 1 -1", plan(3));
        due("count", "2 2 1 3", store().count(0, 1, 800, 0, 0) + " " + store().count(2, 1, 800, 0, 0) + " "
            + store().count(0, 3, 800, 800, 800) + " " + store().count(5, 1, 800, 800, 800));
        due("find", "800 800 800 1", store().find(2, 801, 0) + " " + store().find(2, 801, 1) + " " + store().find(2, 801, 2)
            + " " + store().find(2, 801, 3));
        answers(0, "RULE { ?a :z ?b } => { ?a :y ?b }");
        due("a rule takes it", 804, store().triples());
    }

    private static void rules() {
        about("ROOM: 16 rules are there");
        for (int i = 0; i < 16; i++) {
            answers(i, "RULE{?a :p ?b}=>{?a :q ?b}");
        }
        fails(6, 0, "RULE{?a :p ?b}=>{?a :q ?b}");
        fails(6, 0, "RULE{?a :p2 ?b}=>{?a :q2 ?b}");
        due("sixteen", "0 0 2 16", state());
        fails(7, 0, "UNRULE 16");
        answers(15, "UNRULE 15");
        answers(15, "RULE{?a :p2 ?b}=>{?a :q2 ?b}");
        due("sixteen again", "0 0 4 16", state());
        answers(1, "INSERT DATA { :a :p2 1 }");
        due("it is done", 2, store().triples());
        answers(15, "UNRULE 0");
        answers(14, "UNRULE 14");
        due("the last one went", 1, store().triples());
    }

    private static void choices() {
        about("ROOM: CHOICES are at most 10000 together");
        answers(99, "INSERT DATA { :a :p " + repeat("#", ",", 99) + " . }");
        answers(0, "RULE { ?a :p ?b . ?c :p ?d } => { ?b :k ?d }");
        // 99 + 99 * 99 = 9900; a hundred are left.
        fails(6, 0, "INSERT DATA { :a :p :x }");
        answers(1, "INSERT DATA { :a :q 1 }");
        answers(1, "RULE { ?a ?b ?c } => { ?c :k ?c }");
        fails(6, 0, "INSERT DATA { :a :q 2 }");
        fails(6, 0, "RULE { :a :p 1 } => { :a :p 2 }");
        answers(2, "RULE { :a :p 1000 } => { :a :p 2 }");
        due("still", "100 100", store().triples() + " " + store().said());
        answers(1, "DELETE DATA { :a :q 1 }");
        fails(6, 0, "INSERT DATA { :a :q :x }");
        due("one would follow, and be a choice too much", "99 99", store().triples() + " " + store().said());
        answers(1, "INSERT DATA { :a :q 2 }");
    }

    private static void choicesOfEachLength() {
        about("ROOM: CHOICES of the first k patterns, for each k (1 up to all)");
        answers(100, "INSERT DATA { :a :p " + repeat("#", ",", 98) + " . :a :q 1 , 2 }");
        // 98 + 98 * 98 = 9702, and 298 are left.
        answers(0, "RULE { ?a :p ?b . ?a :p ?c } => { ?b :k ?c }");
        // 98 + 2 * 98 = 294
        answers(1, "RULE { ?a :p ?b . ?a :q ?c } => { ?b :k ?c }");
        answers(2, "RULE { ?a :q ?b . ?b :q ?c . ?a :p ?d } => { ?b :k ?c }");
        // 2 more
        fails(6, 0, "RULE { ?a :q ?b . ?c :q 1 } => { ?b :k ?c }");
        answers(3, "RULE { ?a :q ?b . ?c :r 1 } => { ?b :k ?c }");
        fails(6, 0, "RULE { :a :q 1 } => { :a :q 2 }");
        fails(6, 0, "INSERT DATA { :b :q 1 }");
        answers(1, "DELETE DATA { :a :q 2 }");
        answers(4, "RULE { :a :q 1 } => { :a :q 1 }");
        due("rules", 5, store().rules());
    }

    private static void choicesOfAllRules() {
        about("ROOM: CHOICES of all rules together");
        answers(100, "INSERT DATA { :a :p " + repeat("#", ",", 100) + " }");
        for (int i = 0; i < 16; i++) {
            answers(i, "RULE{?a ?p ?b.:a :p 1.:a :p 2}=>{?b :k ?a}");
        }
        // 16 times 3 times 100 are 4800; 208 triples make 9984.
        answers(100, "INSERT DATA { :a :q " + repeat("#", ",", 100) + " }");
        answers(8, "INSERT DATA { :a :r " + repeat("#", ",", 8) + " }");
        fails(6, 0, "INSERT DATA { :a :r 8 }");
        answers(15, "UNRULE 7");
        answers(1, "INSERT DATA { :a :r 8 }");
        due("rules, triples", "15 209", store().rules() + " " + store().triples());
    }

    private static void whatFollowedHolds() {
        about("9: fault 6 changes nothing of what holds");
        answers(0, "RULE { ?x :p ?y } => { ?x :q ?y . :b :r ?x }");
        answers(90, "INSERT DATA { :a :p " + repeat("#", ",", 90) + " }");
        due("it follows", "181 90", store().triples() + " " + store().said());
        fails(6, 0, "RULE { ?x :p ?y . ?z :q ?w . ?x :p ?v } => { ?x :s ?z }");
        due("holds", "181 90 95 1", state());
        fails(6, 0, "INSERT { ?k :p ?y } WHERE { VALUES ?k { " + repeat(":k#", " ", 20) + " } ?x :p ?y }");
        due("holds", "181 90 95 1", state());
        fails(6, 0, "DELETE { ?x :p ?y } INSERT { ?k :t ?y , ?x } WHERE { VALUES ?k { " + repeat(":k#", " ", 22) + " } ?x :p ?y }");
        due("holds", "181 90 95 1", state());
        due("said", 90, store().count(2, 1, 2, 0, 0));
        answers(0, "UNRULE 0");
        due("said alone", "90 90", store().triples() + " " + store().said());
    }

    private static void numbersAreGivenAgain() {
        about("9: fault 6 changes nothing of numbers of terms");
        answers(99, "INSERT DATA { :a :p " + repeat("#", ",", 99) + " }");
        answers(0, "RULE { ?a :p ?b . ?c :p ?d } => { ?b :k ?d }");
        due("terms", 102, store().terms());
        fails(6, 0, "INSERT DATA { :a :p \"new\"@en , :n1 , :n2 , 5000 , \"x\"^^<y> , 1.5 }");
        due("terms", 102, store().terms());
        fails(6, 0, "RULE { ?a :p ?b . ?c :p ?d } => { :n1 :k2 :n2 , 5000 }");
        due("terms", "102 -1", store().terms() + " " + store().term(103));
        answers(2, "INSERT DATA { :n2 :k2 5000 . :n1 :k3 \"new\"@en }");
        due("terms", "<k2> <k3> <n1> <n2> 5000 \"new\"@en", written(store().term(103)) + " " + written(store().term(104)) + " "
            + written(store().term(105)) + " " + written(store().term(106)) + " " + written(store().term(107)) + " " + written(store().term(108)));
        gives("<n2> <k2> 5000", "SELECT * WHERE { VALUES (?a ?b ?c) { (:n2 :k2 5000) } ?a ?b ?c }");
        answers(0, "INSERT DATA { :n2 :k2 5000 }");
        answers(1, "INSERT DATA { :n1 :k3 \"x\"^^<y> }");
        due("terms", "109 \"x\"^^<y>", store().terms() + " " + written(store().term(109)));
    }

    private static void numbersOfManyStay() {
        about("9: fault 6 changes nothing of numbers of terms, be there many of them");
        answers(400, numbers(0, 20));
        answers(300, numbers(400, 15));
        answers(0, "RULE { ?a :q ?b . ?c :p ?d } => { ?b :k ?d }");
        due("terms", 704, store().terms());
        fails(6, 0, "INSERT DATA { :a :q " + range(1001, 1040, ",") + " }");
        due("terms", 704, store().terms());
        answers(40, "INSERT DATA { :a :p " + range(2001, 2040, ",") + " }");
        due("terms", "744 2001 2040", store().terms() + " " + written(store().term(705)) + " " + written(store().term(744)));
        answers(0, numbers(0, 20));
        answers(0, numbers(400, 15));
        answers(0, "INSERT DATA { :a :p " + range(2001, 2040, ",") + " }");
        due("terms", "744 740 1", store().terms() + " " + store().said() + " " + store().rules());
        answers(20, "INSERT DATA { :a :p " + range(1021, 1040, ",") + " }");
        due("terms", 764, store().terms());
    }

    // Part 7.

    /** A statement that makes exactly so many rows, groups and values; 500 at least. */
    private static String making(int many) {
        int each = Math.min(199, (many - 5) / 40);
        int rest = many - 3 - 40 * each;
        if (rest == 1) {
            each--;
            rest += 40;
        }
        int twos = rest % 3 == 0 ? 0 : rest % 3 == 2 ? 1 : 2;
        return "ASK { " + bytes("{}", (rest - 2 * twos) / 3) + bytes("MINUS{}", twos) + "VALUES ?x {" + repeat("#", " ", 40)
            + "} FILTER(1 IN (" + ones(each - 4) + ")) }";
    }

    private static void made() {
        about("7: a statement makes at most 8000 rows, groups and values together");
        answers(1, making(7999));
        due("made", 7999, store().made());
        fresh();
        answers(1, making(8000));
        due("made", 8000, store().made());
        fresh();
        fails(5, 0, making(8001));
        due("made", 8000, store().made());
        fresh();
        fails(5, 0, making(8002));
    }

    private static void madeByFacts() {
        about("7: at most 8000, with the triples that facts give");
        String[] facts = {"CONSTRUCT { :a :b :c }", "INSERT { :a :b :c }", "DELETE { :a :b :c }", "DELETE { :a :b :c } INSERT { :d :e :f }",
            "CONSTRUCT { :a :b :c . :a :b ?x }"};
        int[] give = {1, 1, 1, 2, 41};
        for (int i = 0; i < facts.length; i++) {
            fresh();
            int answer = run(facts[i] + " WHERE " + making(8000 - give[i]).substring(4));
            due(facts[i] + ": full", "true 8000", (answer >= 0) + " " + store().made());
            fresh();
            fails(5, 0, facts[i] + " WHERE " + making(8001 - give[i]).substring(4));
            due("nothing is said", "0 0 0 0", state());
            fails(5, 0, making(8001));
            answers(1, making(4000));
            fails(5, 0, "ASK { }");
        }
    }

    private static void life() {
        about("7: a life of a store has 20000 of them");
        answers(1, making(8000));
        answers(1, making(8000));
        answers(1, making(3999));
        due("made", 3999, store().made());
        answers(1, "ASK { }");
        due("made", 1, store().made());
        fails(5, 0, "ASK { }");
        fails(5, 0, "SELECT ?a WHERE { }");
        fails(2, 3, "ASK");
        answers(1, "INSERT DATA { :a :p 1 }");
        answers(0, "RULE { ?a :p ?b } => { ?a :q ?b }");
        answers(1, "DELETE DATA { :a :p 1 }");
        answers(0, "UNRULE 0");
        answers(0, "CLEAR");
        fails(5, 0, "INSERT { :a :p 1 } WHERE { }");
        fails(5, 0, "DELETE { :a :p 1 } WHERE { }");
        fails(5, 0, "CONSTRUCT { :a :p 1 } WHERE { }");
    }

    private static void lifeOfFaults() {
        about("7: a statement with fault 5 takes 8000 (or what is left); others take what they make");
        fails(5, 0, making(8001));
        fails(5, 0, making(8001));
        answers(1, making(3999));
        fails(5, 0, "SELECT * WHERE { }");
        fails(5, 0, "ASK { }");
        fresh();
        answers(1, making(8000));
        answers(1, making(8000));
        fails(5, 0, making(4001));
        due("made, also when less was left", 8000, store().made());
        fails(5, 0, "ASK { }");
        fresh();
        answers(1, making(8000));
        answers(1, making(8000));
        answers(1, making(4000));
        fails(5, 0, "ASK { }");
    }

    private static void madeBySix() {
        about("7: also with fault 6; other faults take nothing");
        for (int i = 0; i < 16; i++) {
            answers(i, "RULE{?a :p ?b}=>{?a :q ?b}");
        }
        answers(1, making(8000));
        fails(6, 0, "RULE{?a :p ?b}=>{?a :q ?b}");
        fails(2, 4, "ASK }");
        fails(7, 0, "UNRULE 16");
        answers(1, making(8000));
        answers(1, making(4000));
        about("7: fault 6 of a statement with a group takes what it made");
        answers(2000, product(20, 10));
        int first = store().made();
        due("it made", 1 + 21 + 11 + 11 + 20 + 200 + 2000 + 2000, first);
        String toMuch = "INSERT { :x0 :p0 ?x } WHERE { VALUES ?x { :y0 } FILTER (1 IN (" + ones(190) + ")) }";
        fails(6, 0, toMuch);
        int each = 1 + 2 + 1 + 1 + 192 + 1;
        for (int i = 0; i < 2; i++) {
            fails(6, 0, toMuch);
        }
        int left = 20000 - first - 3 * each;
        due("left", 20000 - 4264 - 594, left);
        answers(1, making(8000));
        answers(1, making(left - 8000));
        fails(5, 0, "ASK { }");
    }

    /** 380 sums, 380 others, 240 more: a thousand terms made. */
    private static final String PAIRS = "VALUES ?x { 0 " + range(1, 19, "00 ") + "00 } VALUES ?y { " + range(1, 19, " ")
        + " } BIND (?x + ?y AS ?a) BIND (?a + 5000 AS ?b) BIND (IF(?y > 12, ?a, ?a + 10000) AS ?c) ";

    private static void termsMade() {
        about("7: TERMS MADE are at most 1000, those that have no number and are different from one another");
        answers(1, "ASK { " + PAIRS + "}");
        due("made", 45 + 400 + 380 * 14, store().made());
        answers(1, "ASK { " + PAIRS + "BIND (?a AS ?d) }");
        fresh();
        fails(5, 0, "ASK { " + PAIRS + "BIND (77777 AS ?d) }");
        fresh();
        answers(1, "INSERT DATA { :a :p 77777 }");
        answers(1, "ASK { " + PAIRS + "BIND (77777 AS ?d) }");
        fresh();
        answers(1, "ASK { " + PAIRS + "BIND (1 / 0 AS ?d) }");
        answers(1, "ASK { " + PAIRS + "FILTER (77777) }");
        fresh();
        fails(5, 0, "ASK { " + PAIRS + "BIND (<x> AS ?d) }");
        due("made", 8000, store().made());
        fails(5, 0, making(8001));
        answers(1, making(4000));
        fails(5, 0, "ASK { }");
    }

    private static void termsMadeOfItemsAndKeys() {
        about("7: TERMS MADE: values of items with AS, of ORDER BY's keys");
        String pairs = PAIRS + "}";
        answers(380, "SELECT ?a WHERE { " + pairs);
        fresh();
        answers(380, "SELECT (?b AS ?d) WHERE { " + pairs);
        fresh();
        fails(5, 0, "SELECT (77777 AS ?d) WHERE { " + pairs);
        fresh();
        fails(5, 0, "SELECT ?a WHERE { " + pairs + " ORDER BY (77777)");
        fresh();
        fails(5, 0, "SELECT ?a WHERE { " + PAIRS + "VALUES ?k { 77777 } } ORDER BY ?k");
        fresh();
        answers(380, "SELECT ?a WHERE { " + PAIRS + "VALUES ?k { 77777 } }");
        fresh();
        fails(5, 0, "SELECT (1 AS ?d) WHERE { " + PAIRS + "} GROUP BY (77777 AS ?k)");
        fresh();
        answers(1, "SELECT (1 AS ?d) WHERE { " + PAIRS + "} GROUP BY (1 AS ?k)");
        fresh();
        answers(1, "SELECT (COUNT(*) - 379 AS ?d) WHERE { " + PAIRS + "} HAVING (77777)");
        fresh();
        answers(0, "SELECT (77777 AS ?d) WHERE { " + PAIRS + "} HAVING (0)");
        fresh();
        fails(5, 0, "SELECT (COUNT(*) AS ?d) WHERE { " + PAIRS + "}");
    }

    /** 250 texts of 64 bytes. */
    private static final String LONG = "ASK { VALUES ?x { " + range(10, 34, " ") + " } VALUES ?y { " + range(10, 19, " ")
        + " } BIND (CONCAT(\"" + bytes("t", 60) + "\", STR(?x * 100 + ?y)) AS ?z) ";

    private static void bytesMade() {
        about("7: of which texts (kinds 5 .. 7) and names have at most 16000 bytes together (tags and types, too)");
        answers(1, LONG + "}");
        due("made", 1 + 26 + 11 + 1 + 25 + 250 + 250 * 8, store().made());
        answers(1, LONG + "BIND (\"\" AS ?a) BIND (123456 AS ?b) BIND (_:b AS ?c) BIND (true AS ?d) BIND (1.5 AS ?e) }");
        String[] ones = {"\"t\"", "<n>", "\"\"@e", "\"\"^^<n>", "\"\\n\""};
        for (String one : ones) {
            fresh();
            fails(5, 0, LONG + "BIND (" + one + " AS ?a) }");
        }
        fresh();
        answers(1, "INSERT DATA { :a :p \"t\" }");
        answers(1, LONG + "BIND (\"t\" AS ?a) }");
    }
}
