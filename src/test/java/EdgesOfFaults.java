/** Parts 4 and 9: what may not stand (fault 4), where the faults are, and which one comes first. */
public final class EdgesOfFaults extends Check {
    public static void main(String[] args) {
        subjects();
        data();
        rules();
        rulesTooLong();
        bindOfVisible();
        itemsOfVisible();
        itemsTwice();
        visible();
        notVisible();
        valuesOfDifferent();
        groupedBy();
        starOfGrouped();
        variablesOfGrouped();
        variablesOfHaving();
        variablesOfKeys();
        groupsInExists();
        aggregatesStand();
        aggregatesWithin();
        aggregatesMakeGrouped();
        firstFaultOfTokens();
        orderOfOneToken();
        lateFaults();
        faultsOfSelects();
        faultsOfSelectsWithin();
        theEnd();
        faultsChangeNothing();
        noSuchRule();
        finish();
    }

    // What may stand.

    private static void subjects() {
        about("4: a subject is no number, text or truth (in facts and lines)");
        String[] none = {"1", "1.5", "\"t\"", "\"t\"@en", "\"t\"^^<n>", "true", "\"5\"^^<whole>"};
        for (String no : none) {
            fresh();
            failsAt(4, "INSERT DATA { @@" + no + " :p 1 }");
            failsAt(4, "DELETE DATA { :a :p 1 . @@" + no + " :p 1 }");
            failsAt(4, "INSERT { @@" + no + " :p 1 } WHERE { }");
            failsAt(4, "DELETE { @@" + no + " :p 1 } WHERE { }");
            failsAt(4, "DELETE { :a :p 1 } INSERT { @@" + no + " :p 1 } WHERE { }");
            failsAt(4, "CONSTRUCT { @@" + no + " :p 1 } WHERE { }");
            failsAt(4, "RULE { @@" + no + " :p 1 } => { :a :p 1 }");
            failsAt(4, "RULE { :a :p 1 } => { @@" + no + " :p 1 }");
            failsAt(4, "ASK { @@" + no + " :p 1 }");
            failsAt(4, "ASK { ?a :p ?b . @@" + no + " :p+ 1 }");
        }
        fresh();
        answers(0, "ASK { :a :p 1 . _:a :p 1 . <a> :p 1 . ?a :p 1 }");
        answers(0, "RULE { _:a :p ?x } => { _:a :q 1 . ?x :q 1 }");
    }

    private static void data() {
        about("4: in DATA no VAR stands");
        failsAt(4, "INSERT DATA { @@?a :p 1 }");
        failsAt(4, "INSERT DATA { :a @@?a 1 }");
        failsAt(4, "INSERT DATA { :a :p @@?a }");
        failsAt(4, "INSERT DATA { :a :p 1 , @@?a }");
        failsAt(4, "INSERT DATA { :a :p 1 ; @@?a 1 }");
        failsAt(4, "INSERT DATA { :a :p 1 . @@?a :p 1 }");
        failsAt(4, "DELETE DATA { @@?a :p 1 }");
        failsAt(4, "DELETE DATA { :a :p @@?a");
        answers(0, "DELETE { ?a ?a ?a } WHERE { }");
        due("nothing stands", "0 0 0 0", state());
    }

    private static void rules() {
        about("4: a rule's head has variables of the body alone");
        answers(0, "RULE { ?a ?b ?c } => { ?c ?b ?a . ?a ?a ?a }");
        failsAt(4, "RULE { ?a :p ?b } => { @@?c :p ?b }");
        failsAt(4, "RULE { ?a :p ?b } => { ?a @@?c ?b }");
        failsAt(4, "RULE { ?a :p ?b } => { ?a :p @@?c }");
        failsAt(4, "RULE { :a :p :b } => { @@?a :p :b }");
        failsAt(4, "RULE { ?a :p ?b } => { ?a :p ?b . ?a :p @@?A }");
        answers(1, "RULE { :a :p :b } => { :c :d :e }");
    }

    private static void rulesTooLong() {
        about("4: a rule's body has 1 .. 4 patterns, its head 1 .. 3; too many are told at the }");
        answers(0, "RULE { ?a :p 1 } => { ?a :q 1 }");
        answers(1, "RULE { ?a :p 1 . ?a :p 2 , 3 ; :q 4 } => { ?a :q 1 , 2 . ?a :r 3 . }");
        failsAt(4, "RULE { ?a :p 1 , 2 , 3 , 4 , 5 @@} => { ?a :q 1 }");
        failsAt(4, "RULE { ?a :p 1 . ?a :p 2 . ?a :p 3 . ?a :p 4 . ?a :p 5 . @@} => x");
        failsAt(4, "RULE { ?a :p 1 } => { ?a :q 1 , 2 , 3 , 4 @@}");
        failsAt(4, "RULE { ?a :p 1 } => { ?a :q 1 , 2 . ?a :q 3 ; :r 4 . @@}");
        failsAt(2, "RULE { ?a :p 1 , 2 , 3 , 4 , 5@@");
        failsAt(2, "RULE { ?a :p 1 } => { ?a :q 1 , 2 , 3 , 4 . @@)");
        failsAt(4, "RULE { " + repeat("?v# :p #", " . ", 9) + " @@} => { ?v0 :q 1 }");
        failsAt(2, "RULE { @@} => { :a :q 1 }");
        failsAt(2, "RULE { ?a :p 1 } => { @@}");
        due("two rules", 2, store().rules());
    }

    private static void bindOfVisible() {
        about("4: a VAR behind AS must not be visible: not in the group's parts before it (in BIND)");
        answers(1, "ASK { BIND (1 AS ?a) }");
        failsAt(4, "ASK { BIND (1 AS ?a) BIND (2 AS @@?a) }");
        failsAt(4, "ASK { ?a :p ?b BIND (2 AS @@?b) }");
        failsAt(4, "ASK { VALUES ?a { 1 } BIND (2 AS @@?a) }");
        failsAt(4, "ASK { OPTIONAL { ?b :p ?a } BIND (2 AS @@?a) }");
        failsAt(4, "ASK { { ?b :p ?a } UNION { } BIND (2 AS @@?a) }");
        failsAt(4, "ASK { { } UNION { ?b :p ?a } BIND (2 AS @@?a) }");
        failsAt(4, "ASK { { SELECT ?a WHERE { } } BIND (2 AS @@?a) }");
        failsAt(4, "ASK { { { ?a :p 1 } } BIND (2 AS @@?a) }");
        failsAt(4, "ASK { ?b ?a ?c BIND (2 AS @@?a) }");
        failsAt(4, "ASK { ?b :p+ ?a BIND (2 AS @@?a) }");
        fresh();
        answers(0, "ASK { BIND (2 AS ?a) ?a :p ?b }");
        answers(1, "ASK { BIND (2 AS ?a) OPTIONAL { BIND (3 AS ?a) } }");
        answers(1, "ASK { { BIND (2 AS ?a) } UNION { BIND (3 AS ?a) } }");
        answers(1, "ASK { BIND (?a AS ?a) }");
        answers(1, "ASK { FILTER EXISTS { BIND (1 AS ?a) } BIND (2 AS ?a) }");
        failsAt(4, "ASK { FILTER EXISTS { BIND (1 AS ?a) BIND (2 AS @@?a) } }");
        answers(1, "SELECT (1 AS ?b) WHERE { { SELECT (2 AS ?c) WHERE { BIND (1 AS ?a) } } BIND (3 AS ?a) }");
    }

    private static void itemsOfVisible() {
        about("4: a VAR behind AS must not be visible: not in the group, nor an item before it (in items)");
        answers(1, "SELECT (1 AS ?a) (2 AS ?b) WHERE { }");
        failsAt(4, "SELECT (1 AS @@?a) WHERE { ?a :p ?b }");
        failsAt(4, "SELECT (1 AS @@?a) WHERE { VALUES ?a { } }");
        failsAt(4, "SELECT (1 AS @@?a) WHERE { BIND (1 AS ?a) }");
        failsAt(4, "SELECT (1 AS @@?a) WHERE { OPTIONAL { ?b :p ?a } }");
        failsAt(4, "SELECT (1 AS @@?a) WHERE { { } UNION { ?b :p ?a } }");
        failsAt(4, "SELECT (1 AS @@?a) WHERE { { SELECT ?a WHERE { } } }");
        failsAt(4, "SELECT (1 AS @@?a) WHERE { SELECT ?a WHERE { } }");
        failsAt(4, "SELECT (1 AS ?a) (2 AS @@?a) WHERE { }");
        failsAt(4, "SELECT ?a (2 AS @@?a) WHERE { }");
        failsAt(4, "SELECT (1 AS ?a) @@?a WHERE { }");
        answers(1, "SELECT ?a (2 AS ?b) WHERE { }");
        fresh();
        failsAt(4, "SELECT ?b WHERE { ?a :p ?b } GROUP BY ?b (1 AS @@?a)");
        failsAt(4, "SELECT ?b WHERE { } GROUP BY ?b (1 AS @@?b)");
        failsAt(4, "SELECT ?b WHERE { } GROUP BY (1 AS ?b) (2 AS @@?b)");
        failsAt(4, "SELECT (1 AS @@?b) WHERE { } GROUP BY ?b");
        failsAt(4, "SELECT (1 AS @@?b) WHERE { } GROUP BY (2 AS ?b)");
        answers(1, "SELECT ?b WHERE { } GROUP BY (2 AS ?b)");
        answers(1, "SELECT (?b AS ?c) WHERE { } GROUP BY (2 AS ?b)");
    }

    private static void itemsTwice() {
        about("4: no VAR is an item twice (of a SELECT, of a GROUP BY)");
        failsAt(4, "SELECT ?a @@?a WHERE { }");
        failsAt(4, "SELECT ?a ?b @@?a WHERE { }");
        failsAt(4, "SELECT DISTINCT ?b ?a @@?a ?b WHERE { }");
        failsAt(4, "SELECT ?a WHERE { } GROUP BY ?a @@?a");
        failsAt(4, "SELECT ?a WHERE { } GROUP BY (1 AS ?a) @@?a");
        answers(1, "SELECT ?a WHERE { } ORDER BY ?a ?a");
        answers(0, "SELECT ?a ?b WHERE { } GROUP BY ?b ?a LIMIT 0");
    }

    private static void visible() {
        about("4: visible are the variables of lines, BIND, VALUES, of items of a SELECT within, of OPTIONAL, UNION, groups");
        answers(0, "SELECT * WHERE { ?a ?b ?c . ?d ^:p ?e BIND (1 AS ?f) VALUES ?g { } }");
        due("of the group", 7, store().columns());
        answers(0, "SELECT * WHERE { OPTIONAL { ?a :p ?b } { ?c :p ?d } UNION { ?e :p ?f } { { ?g :p ?h } } }");
        due("of groups", 8, store().columns());
        answers(0, "SELECT * WHERE { { SELECT ?a (1 AS ?b) WHERE { ?c :p ?d } } { SELECT * WHERE { ?e :p ?f } } }");
        due("of a SELECT", "a b e f", columns());
        answers(0, "SELECT * WHERE { ?z ?y ?x { ?w :p ?y } BIND (1 AS ?b) OPTIONAL { ?a :p ?z } }");
        due("by where they come first", "z y x w b a", columns());
        answers(1, "SELECT * WHERE { BIND (?z AS ?a) VALUES (?c ?b) { (1 2) } }");
        due("by where they are brought", "a c b", columns());
        answers(0, "SELECT * WHERE { ?b :p ?b . ?b :q ?a , ?b ; :r ?c }");
        due("once each", "b a c", columns());
    }

    private static String columns() {
        StringBuilder out = new StringBuilder();
        int many = store().columns();
        for (int c = 0; c < many; c++) {
            out.append(c > 0 ? " " : "").append(written(store().column(c)));
        }
        return out.toString();
    }

    private static void notVisible() {
        about("4: not those of MINUS, FILTER");
        answers(1, "SELECT * WHERE { MINUS { ?a :p ?b } FILTER (BOUND(?c) || 1) FILTER NOT EXISTS { ?d :p ?e } }");
        due("none", 0, store().columns());
        answers(1, "SELECT (1 AS ?a) WHERE { MINUS { ?a :p ?b } }");
        answers(1, "SELECT (1 AS ?a) WHERE { FILTER NOT EXISTS { ?a :p ?b } }");
        answers(1, "SELECT (1 AS ?a) WHERE { FILTER (!BOUND(?a)) }");
        answers(1, "SELECT (1 AS ?a) WHERE { BIND (EXISTS { ?a :p ?b } AS ?c) }");
        answers(1, "ASK { MINUS { ?a :p ?b } BIND (1 AS ?a) }");
        answers(1, "ASK { BIND (?a AS ?b) BIND (1 AS ?a) }");
        answers(1, "SELECT * WHERE { { SELECT (1 AS ?b) WHERE { } ORDER BY ?c } }");
        due("nor of keys", "b", columns());
        answers(0, "SELECT * WHERE { { SELECT (1 AS ?b) WHERE { ?x :p ?y } GROUP BY ?c } }");
        due("nor of GROUP BY", "b", columns());
    }

    private static void valuesOfDifferent() {
        about("4: VARs of one VALUES are different ones");
        failsAt(4, "ASK { VALUES (?a @@?a) { } }");
        failsAt(4, "ASK { VALUES (?a ?b ?c @@?b) { } }");
        answers(1, "ASK { VALUES (?a ?b) { (1 2) } VALUES (?b ?a) { (2 1) } VALUES ?a { 1 } }");
        answers(0, "ASK { ?a :p ?b VALUES (?b ?a) { } }");
    }

    private static void groupedBy() {
        about("4: a SELECT is grouped when it has GROUP BY, HAVING, or an aggregate in its items or keys");
        failsAt(4, "SELECT @@?a WHERE { ?a :p ?b } GROUP BY ?b");
        failsAt(4, "SELECT @@?a WHERE { ?a :p ?b } HAVING (1)");
        failsAt(4, "SELECT (COUNT(*) AS ?n) @@?a WHERE { ?a :p ?b }");
        failsAt(4, "SELECT @@?a (COUNT(*) AS ?n) WHERE { ?a :p ?b }");
        failsAt(4, "SELECT @@?a WHERE { ?a :p ?b } ORDER BY (COUNT(*))");
        failsAt(4, "SELECT @@?a WHERE { ?a :p ?b } ORDER BY DESC(1 + COUNT(?b))");
        answers(0, "SELECT ?a WHERE { ?a :p ?b } ORDER BY ?b LIMIT 1 OFFSET 1");
        answers(0, "SELECT DISTINCT ?a WHERE { ?a :p ?b }");
        answers(0, "SELECT ?a WHERE { ?a :p ?b } GROUP BY ?b ?a");
        answers(1, "SELECT (1 AS ?a) WHERE { ?c :p ?b } HAVING (1)");
    }

    private static void starOfGrouped() {
        about("4: in a grouped SELECT * is not said");
        failsAt(4, "SELECT @@* WHERE { ?a :p ?b } GROUP BY ?a");
        failsAt(4, "SELECT @@* WHERE { } HAVING (1)");
        failsAt(4, "SELECT DISTINCT @@* WHERE { } ORDER BY (COUNT(*))");
        failsAt(4, "ASK { { SELECT @@* WHERE { } GROUP BY ?a } }");
        answers(1, "SELECT * WHERE { } ORDER BY (1)");
    }

    private static void variablesOfGrouped() {
        about("4: items have outside of aggregates only variables of GROUP BY's items, and those behind AS in items before");
        answers(0, "SELECT ?a (?a + 1 AS ?b) (?b + 1 AS ?c) WHERE { ?a :p ?d } GROUP BY ?a");
        failsAt(4, "SELECT (@@?d AS ?b) WHERE { ?a :p ?d } GROUP BY ?a");
        failsAt(4, "SELECT (1 + (?a + @@?d) AS ?b) WHERE { ?a :p ?d } GROUP BY ?a");
        failsAt(4, "SELECT (BOUND(@@?d) AS ?b) WHERE { ?a :p ?d } GROUP BY ?a");
        failsAt(4, "SELECT (@@?c AS ?b) (1 AS ?c) WHERE { ?a :p ?d } GROUP BY ?a");
        failsAt(4, "SELECT (@@?b AS ?b) WHERE { ?a :p ?d } GROUP BY ?a");
        failsAt(4, "SELECT (@@?z AS ?b) WHERE { ?a :p ?d } GROUP BY ?a");
        failsAt(4, "SELECT (SUM(?d) + @@?d AS ?b) WHERE { ?a :p ?d } GROUP BY ?a");
        fresh();
        answers(1, "SELECT (SUM(?d + ?z) AS ?b) (COUNT(BOUND(?z)) AS ?c) WHERE { ?a :p ?d }");
        answers(0, "SELECT ?x (?x AS ?y) WHERE { ?a :p ?d } GROUP BY (?a AS ?x)");
        answers(0, "SELECT ?a WHERE { ?a :p ?d } GROUP BY (?d + 1 AS ?x) ?a (?x AS ?y)");
        answers(0, "SELECT ?n WHERE { ?a :p ?d } GROUP BY ?n");
    }

    private static void variablesOfHaving() {
        about("4: HAVING has of those behind AS none");
        failsAt(4, "SELECT (COUNT(*) AS ?n) WHERE { } HAVING (@@?n > 1)");
        failsAt(4, "SELECT ?a WHERE { ?a :p ?b } GROUP BY ?a HAVING (@@?b)");
        failsAt(4, "SELECT ?a (1 AS ?n) WHERE { ?a :p ?b } GROUP BY ?a HAVING (?a = @@?n)");
        answers(0, "SELECT ?a (1 AS ?n) WHERE { ?a :p ?b } GROUP BY ?a (2 AS ?x) HAVING (?a = ?x || COUNT(?b) > 1)");
    }

    private static void variablesOfKeys() {
        about("4: ORDER BY has those behind AS in all items");
        answers(0, "SELECT ?a (1 AS ?n) WHERE { ?a :p ?b } GROUP BY ?a ORDER BY ?n ?a (?n + 1) DESC(COUNT(?b))");
        failsAt(4, "SELECT ?a (1 AS ?n) WHERE { ?a :p ?b } GROUP BY ?a ORDER BY ?n @@?b");
        failsAt(4, "SELECT ?a (1 AS ?n) WHERE { ?a :p ?b } GROUP BY ?a ORDER BY ASC(?n + @@?b)");
        failsAt(4, "SELECT (COUNT(*) AS ?n) WHERE { ?a :p ?b } ORDER BY @@?a");
        failsAt(4, "SELECT (1 AS ?n) WHERE { ?a :p ?b } ORDER BY (COUNT(*)) @@?a");
        failsAt(4, "SELECT (COUNT(?z) AS ?n) WHERE { ?z :p ?b } HAVING (1) ORDER BY @@?z");
        failsAt(4, "SELECT (COUNT(?z) AS ?n) WHERE { ?z :p ?b } ORDER BY ?n @@?z");
        answers(0, "SELECT (1 AS ?n) WHERE { ?a :p ?b } ORDER BY ?a ?z");
    }

    private static void groupsInExists() {
        about("4: groups in EXISTS are not looked at");
        answers(0, "SELECT ?a (EXISTS { ?a :p ?z } AS ?n) WHERE { ?a :p ?b } GROUP BY ?a HAVING (NOT EXISTS { ?a :q ?b }) ORDER BY (EXISTS { ?b :q ?c })");
        failsAt(4, "SELECT ?a (EXISTS { ?a :p ?z } || @@?z AS ?n) WHERE { ?a :p ?b } GROUP BY ?a");
    }

    private static void aggregatesStand() {
        about("4: aggregates stand only in items, keys and HAVING, at their word; none in GROUP BY");
        String[] names = {"COUNT", "SUM", "MIN", "MAX", "AVG", "SAMPLE", "GROUPCONCAT"};
        for (String name : names) {
            fresh();
            answers(1, "SELECT (" + name + "(1) AS ?a) WHERE { } HAVING (" + name + "(1) || 1) ORDER BY (" + name + "(1)) DESC(" + name + "(1))");
            failsAt(4, "ASK { FILTER (@@" + name + "(1)) }");
            failsAt(4, "ASK { BIND (1 + @@" + name + "(1) AS ?a) }");
            failsAt(4, "SELECT ?a WHERE { } GROUP BY (@@" + name + "(1) AS ?a)");
            failsAt(4, "SELECT (1 AS ?a) WHERE { FILTER (ABS(@@" + name + "(1))) }");
        }
        fresh();
        failsAt(4, "ASK { FILTER (@@SUM");
        failsAt(4, "ASK { FILTER (@@COUNT)");
        failsAt(4, "SELECT ?a WHERE { OPTIONAL { FILTER (1 IN (@@SUM(1))) } } GROUP BY ?a");
    }

    private static void aggregatesWithin() {
        about("4: none within another one (those of a SELECT in an EXISTS there may)");
        failsAt(4, "SELECT (SUM(@@SUM(1)) AS ?a) WHERE { }");
        failsAt(4, "SELECT (SUM(1 + ABS(@@COUNT(*))) AS ?a) WHERE { }");
        failsAt(4, "SELECT (COUNT(DISTINCT @@COUNT(*)) AS ?a) WHERE { }");
        failsAt(4, "SELECT (1 AS ?a) WHERE { } HAVING (MAX(@@MIN(1)))");
        answers(1, "SELECT (SUM(1) + SUM(2) AS ?a) (ABS(SUM(3)) AS ?b) WHERE { }");
        answers(1, "SELECT (COUNT(EXISTS { SELECT (COUNT(*) AS ?c) WHERE { } }) AS ?a) WHERE { }");
        failsAt(4, "SELECT (COUNT(EXISTS { FILTER (@@COUNT(*)) }) AS ?a) WHERE { }");
        failsAt(4, "SELECT (COUNT(EXISTS { SELECT (COUNT(@@SUM(1)) AS ?c) WHERE { } }) AS ?a) WHERE { }");
        failsAt(4, "SELECT (COUNT(EXISTS { } + @@SUM(1)) AS ?a) WHERE { }");
        answers(1, "SELECT (COUNT(EXISTS { }) + SUM(1) AS ?a) WHERE { }");
        answers(1, "SELECT (EXISTS { FILTER (1) } && COUNT(*) > 0 AS ?a) WHERE { }");
        answers(1, "SELECT (EXISTS { SELECT (COUNT(*) AS ?c) WHERE { } } && COUNT(*) > 0 AS ?a) WHERE { }");
        failsAt(4, "SELECT * WHERE { FILTER (EXISTS { SELECT (COUNT(*) AS ?c) WHERE { } } && @@COUNT(*) > 0) }");
        failsAt(4, "SELECT ?a WHERE { } GROUP BY (EXISTS { SELECT (COUNT(*) AS ?c) WHERE { } } && @@COUNT(*) > 0 AS ?a)");
    }

    private static void aggregatesMakeGrouped() {
        about("4: an aggregate of a SELECT within makes that one grouped alone");
        answers(0, "SELECT ?a WHERE { ?a :p ?b FILTER EXISTS { SELECT (COUNT(*) AS ?c) WHERE { } } }");
        answers(0, "SELECT ?a (EXISTS { SELECT (COUNT(*) AS ?c) WHERE { } } AS ?n) WHERE { ?a :p ?b }");
        answers(0, "SELECT * WHERE { ?a :p ?b { SELECT (COUNT(*) AS ?c) WHERE { } } }");
        failsAt(4, "SELECT ?a WHERE { ?a :p ?b { SELECT @@?d (COUNT(*) AS ?c) WHERE { } } }");
    }

    // Which fault is the first one.

    private static void firstFaultOfTokens() {
        about("9: the first fault, while tokens are read (each as soon as the one before it was taken)");
        failsAt(1, "ASK @@&");
        failsAt(2, "@@} &");
        failsAt(1, "ASK { @@& } }");
        failsAt(4, "INSERT DATA { @@5 & }");
        failsAt(1, "INSERT DATA { :a @@&");
        failsAt(2, "ASK { ?a @@} { { { { { { { { {");
        failsAt(3, "ASK { { { { { { { { @@{ &");
        failsAt(4, "ASK { FILTER (@@COUNT &");
        failsAt(1, "ASK { } @@&");
        failsAt(2, "ASK { } @@x &");
    }

    private static void orderOfOneToken() {
        about("9: of one token 2 comes first, then 4, but the 9th column of VALUES is 3");
        failsAt(2, "INSERT DATA { :a @@5 1 }");
        failsAt(4, "INSERT DATA { @@5 5 5 }");
        String many = "ASK { VALUES (" + repeat("?v#", " ", 8);
        failsAt(3, many + " @@?v8) { } }");
        failsAt(3, many + " @@?v0) { } }");
        failsAt(2, many + " @@5) { } }");
        failsAt(4, many.replace("?v7", "@@?v0") + ") { } }");
        fresh();
        String variables = "RULE { " + repeat("?v# :p ?w#", " . ", 12);
        failsAt(4, variables + " @@} => { ?v0 :p 1 }");
        failsAt(3, variables + " . @@?x :p 1 } => { ?v0 :p 1 }");
        failsAt(2, "SELECT * WHERE { " + repeat("?v# :p ?w#", " ", 12) + " OPTIONAL @@?x }");
        fresh();
        failsAt(4, "SELECT * WHERE { " + repeat("?v# :p ?w#", " ", 12) + " FILTER (@@COUNT(*)) }");
    }

    private static void lateFaults() {
        about("9: 4 of BIND's VAR and of a VAR that stands twice in one VALUES when the next token was read");
        failsAt(4, "ASK { BIND (1 AS ?a) BIND (2 AS @@?a) }");
        failsAt(4, "ASK { BIND (1 AS ?a) BIND (2 AS @@?a");
        failsAt(4, "ASK { BIND (1 AS ?a) BIND (2 AS @@?a x }");
        failsAt(1, "ASK { BIND (1 AS ?a) BIND (2 AS ?a @@&");
        failsAt(1, "ASK { BIND (1 AS ?a) BIND (2 AS ?a@@~");
        failsAt(4, "ASK { VALUES (?a @@?a");
        failsAt(4, "ASK { VALUES (?a @@?a 5");
        failsAt(1, "ASK { VALUES (?a ?a @@&");
        failsAt(4, "ASK { VALUES (?a @@?a ?a) &");
    }

    private static void faultsOfSelects() {
        about("9: of a SELECT when all of it was read, its ends too, ahead of 2 of the token behind it");
        failsAt(4, "SELECT ?a @@?a WHERE { } x");
        failsAt(4, "SELECT ?a @@?a WHERE { } LIMIT 1 LIMIT 1");
        failsAt(2, "SELECT ?a ?a WHERE { } LIMIT @@x");
        failsAt(2, "SELECT ?a ?a WHERE { } ORDER BY@@");
        failsAt(1, "SELECT ?a ?a WHERE { } @@&");
        failsAt(3, "SELECT ?a ?a WHERE { } ORDER BY ?a ?a ?a ?a ?a ?a @@?a");
        failsAt(4, "SELECT (1 AS @@?a) WHERE { ?a :p ?b } }");
        failsAt(2, "SELECT (1 AS ?a) WHERE { ?a :p ?b @@");
        about("9: first GROUP BY's items' VARs, then the SELECT's, in order");
        failsAt(4, "SELECT ?a ?a WHERE { } GROUP BY ?b @@?b");
        failsAt(4, "SELECT ?a @@?a ?c ?c WHERE { } GROUP BY ?b");
        failsAt(4, "SELECT ?a ?a WHERE { ?c :p 1 } GROUP BY ?b (1 AS @@?c) ?b");
        failsAt(4, "SELECT (1 AS @@?x) ?x WHERE { ?x :p 1 } HAVING (1)");
        about("9: then, if it is grouped, *, then the variables, by where they stand");
        failsAt(4, "SELECT @@* WHERE { ?a :p 1 } ORDER BY (COUNT(*)) ?a");
        failsAt(4, "SELECT (?z AS ?b) @@?b WHERE { } HAVING (?z)");
        failsAt(4, "SELECT (@@?z AS ?b) ?c WHERE { } HAVING (?y)");
        failsAt(4, "SELECT @@?c (?z AS ?b) WHERE { } HAVING (?y)");
        failsAt(4, "SELECT (1 AS ?b) WHERE { } HAVING (@@?y) ORDER BY ?z");
        failsAt(4, "SELECT (1 AS ?b) WHERE { } GROUP BY (?q AS ?r) HAVING (1) ORDER BY (?r + @@?z) ?y");
    }

    private static void faultsOfSelectsWithin() {
        about("9: of a SELECT within, too, when all of it was read");
        failsAt(4, "ASK { { SELECT ?a @@?a WHERE { } } } x");
        failsAt(4, "ASK { { SELECT ?a @@?a WHERE { } x }");
        failsAt(1, "ASK { { SELECT ?a ?a WHERE { } @@& } }");
        failsAt(4, "SELECT ?b ?b WHERE { { SELECT ?a @@?a WHERE { } } }");
        failsAt(4, "SELECT ?b ?b WHERE { FILTER (@@COUNT(*)) }");
        failsAt(4, "ASK { { SELECT (1 AS @@?a) WHERE { { SELECT ?a WHERE { } } } } BIND (1 AS ?a) }");
        failsAt(4, "ASK { { SELECT ?a WHERE { } } BIND (1 AS @@?a) }");
    }

    private static void theEnd() {
        about("9: 2 the end, when more is wanted (its length)");
        String statement = "SELECT DISTINCT ?a (COUNT(*) AS ?b) WHERE { ?a :p/^(:q|!a)* ?c ; :r ?d , 5 . OPTIONAL { FILTER (?c + 1 = 2 ) } "
            + "VALUES (?x ?y) { (1 UNDEF) } MINUS { BIND ( ABS(1) AS ?e ) } } GROUP BY ?a HAVING ( ! 1 ) ORDER BY DESC ( ?a ) LIMIT 1";
        String[] tokens = statement.split(" ");
        StringBuilder text = new StringBuilder();
        int wants = 0;
        for (int i = 0; i + 1 < tokens.length; i++) {
            fresh();
            text.append(tokens[i]).append(' ');
            int answer = run(text.toString());
            boolean whole = answer >= 0 || answer == -104;
            if (!whole) {
                wants++;
                due(text + "at", "-102 at " + text.length(), answer + " at " + store().place());
            }
        }
        due("how often more is wanted", tokens.length - 1 - 4, wants);
        fresh();
        failsAt(2, "ASK {  \n @@");
        failsAt(2, "ASK { # }@@");
        failsAt(2, "INSERT DATA { :a :p 1@@");
    }

    // Faults change nothing.

    private static void faultsChangeNothing() {
        about("9: a fault changes nothing of what is said and holds, of rules and numbers of terms");
        answers(0, "RULE { ?a :p ?b } => { ?a :q ?b }");
        answers(2, "INSERT DATA { :a :p 1 , 2 }");
        String before = state();
        failsAt(1, "INSERT DATA { :b :p 3 } @@&");
        failsAt(2, "INSERT DATA { :b :p 3 } @@}");
        failsAt(2, "DELETE DATA { :a :p 1 @@");
        failsAt(4, "INSERT DATA { :b :p 3 . @@4 :p 3 }");
        failsAt(4, "RULE { ?a :s ?b } => { ?a :t @@?c }");
        failsAt(2, "CLEAR @@.");
        failsAt(2, "UNRULE 0 @@.");
        failsAt(2, "DELETE { ?a :p ?b } WHERE { ?a :p ?b } @@.");
        fails(7, 0, "UNRULE 1");
        due("state", before, state());
        due("terms", "<p> <q> <a> 1 2", written(store().term(1)) + " " + written(store().term(2)) + " "
            + written(store().term(3)) + " " + written(store().term(4)) + " " + written(store().term(5)));
    }

    private static void noSuchRule() {
        about("9: UNRULE: it goes, those behind it are one less (fault 7 for a number that no rule has)");
        fails(7, 0, "UNRULE 0");
        answers(0, "RULE { ?a :p ?b } => { ?a :q0 ?b }");
        answers(1, "RULE { ?a :p ?b } => { ?a :q1 ?b }");
        answers(2, "RULE { ?a :p ?b } => { ?a :q2 ?b }");
        answers(1, "INSERT DATA { :a :p 1 }");
        fails(7, 0, "UNRULE 3");
        fails(7, 0, "UNRULE 999999999999999999");
        answers(2, "UNRULE 0");
        due("q1 and q2 are left", "0 1 1", run("ASK { ?a :q0 ?b }") + " " + run("ASK { ?a :q1 ?b }") + " " + run("ASK { ?a :q2 ?b }"));
        fails(7, 0, "UNRULE 2");
        answers(1, "UNRULE 1");
        due("q1 is left", "0 1 0", run("ASK { ?a :q0 ?b }") + " " + run("ASK { ?a :q1 ?b }") + " " + run("ASK { ?a :q2 ?b }"));
        answers(1, "RULE { ?a :p ?b } => { ?a :q1 ?b }");
        answers(1, "UNRULE 0");
        due("the same one stands twice", "1", run("ASK { ?a :q1 ?b }"));
        answers(0, "UNRULE 0");
        due("none", "1 1 0", store().triples() + " " + store().said() + " " + store().rules());
        fails(7, 0, "UNRULE 0");
    }
}
