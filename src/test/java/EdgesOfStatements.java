/** Part 4, STATEMENTS, with the faults 1 to 4 of part 9: each edge that they name, at it and beyond it. */
public final class EdgesOfStatements extends Check {
    public static void main(String[] args) {
        statements();
        selects();
        ends();
        wholes();
        facts();
        groups();
        lines();
        dots();
        optionsAndFilters();
        binds();
        values();
        valuesRows();
        paths();
        pathsBehindNot();
        expressions();
        comparisons();
        inLists();
        exists();
        bounds();
        functions();
        aggregates();
        patternsAndPathLines();
        finish();
    }

    private static void statements() {
        about("4: the statements, and 2 also behind a whole one");
        answers(0, "CLEAR");
        failsAt(2, "CLEAR @@CLEAR");
        failsAt(2, "CLEAR @@}");
        failsAt(2, "@@");
        failsAt(2, "@@{ }");
        failsAt(2, "@@?a");
        failsAt(2, "@@DATA { :a :p 1 }");
        failsAt(2, "@@WHERE { }");
        failsAt(2, "@@GROUP");
        failsAt(2, "ASK@@");
        failsAt(2, "ASK @@WHERE { }");
        failsAt(2, "ASK { } @@LIMIT 1");
        failsAt(2, "CONSTRUCT@@");
        failsAt(2, "CONSTRUCT { ?a :p ?b } @@{ }");
        failsAt(2, "CONSTRUCT @@DATA { :a :p 1 }");
        failsAt(2, "CONSTRUCT @@WHERE { }");
        failsAt(2, "INSERT @@WHERE { }");
        failsAt(2, "INSERT DATA@@");
        failsAt(2, "INSERT DATA { :a :p 1 } @@WHERE { }");
        failsAt(2, "INSERT { :a :p 1 } @@DELETE { :a :p 1 } WHERE { }");
        failsAt(2, "INSERT { :a :p 1 }@@");
        fresh();
        failsAt(2, "DELETE { :a :p 1 } INSERT @@DATA { :a :p 1 }");
        failsAt(2, "DELETE { :a :p 1 } @@DELETE { :a :p 1 } WHERE { }");
        failsAt(2, "DELETE { :a :p 1 } INSERT { :a :p 1 } @@INSERT { :a :p 1 } WHERE { }");
        failsAt(2, "DELETE DATA { :a :p 1 } @@INSERT DATA { :a :p 1 }");
        answers(0, "DELETE { :a :p 1 } WHERE { }");
        failsAt(2, "RULE { ?a :p ?b } @@{ ?a :q ?b }");
        failsAt(2, "RULE { ?a :p ?b } => { ?a :q ?b } @@WHERE { }");
        failsAt(2, "RULE { ?a :p ?b }@@");
        failsAt(2, "UNRULE@@");
        failsAt(2, "UNRULE @@?a");
        failsAt(2, "UNRULE 0 @@0");
        due("nothing stands", "0 0 0 0", state());
    }

    private static void selects() {
        about("4: SELECT [DISTINCT] (* | item+) WHERE group");
        answers(1, "SELECT * WHERE { }");
        answers(1, "SELECT DISTINCT * WHERE { }");
        answers(1, "SELECT DISTINCT ?a (1 AS ?b) WHERE { }");
        failsAt(2, "SELECT @@WHERE { }");
        failsAt(2, "SELECT DISTINCT @@WHERE { }");
        failsAt(2, "SELECT DISTINCT @@DISTINCT ?a WHERE { }");
        failsAt(2, "SELECT * @@?a WHERE { }");
        failsAt(2, "SELECT ?a @@* WHERE { }");
        failsAt(2, "SELECT @@:a WHERE { }");
        failsAt(2, "SELECT ?a@@, ?b WHERE { }");
        failsAt(2, "SELECT ?a @@{ }");
        failsAt(2, "SELECT (?a@@) WHERE { }");
        failsAt(2, "SELECT (1 AS @@5) WHERE { }");
        failsAt(2, "SELECT (@@AS ?a) WHERE { }");
        failsAt(2, "SELECT (1 AS ?a @@?b) WHERE { }");
        failsAt(2, "SELECT (1 @@?a) WHERE { }");
        failsAt(2, "SELECT @@1 AS ?a WHERE { }");
        failsAt(2, "SELECT @@COUNT(*) WHERE { }");
        failsAt(2, "SELECT (@@) WHERE { }");
    }

    private static void ends() {
        about("4: ends = [GROUP BY item+] [HAVING ( expr )] [ORDER BY key+] [LIMIT WHOLE] [OFFSET WHOLE]");
        answers(1, "SELECT (1 AS ?n) WHERE { } GROUP BY ?a (2 AS ?b) HAVING (1) ORDER BY ?a (1) ASC(1) DESC(?b) LIMIT 1 OFFSET 0");
        failsAt(2, "SELECT ?a WHERE { } GROUP @@?a");
        failsAt(2, "SELECT ?a WHERE { } GROUP BY@@");
        failsAt(2, "SELECT ?a WHERE { } GROUP BY ?a @@GROUP BY ?a");
        failsAt(2, "SELECT ?a WHERE { } GROUP BY ?a @@DESC(?a)");
        failsAt(2, "SELECT ?a WHERE { } GROUP BY (?a@@)");
        failsAt(2, "SELECT ?a WHERE { } HAVING @@?a");
        failsAt(2, "SELECT (1 AS ?a) WHERE { } HAVING (1) @@(1)");
        failsAt(4, "SELECT @@?a WHERE { } HAVING (1) (1)");
        failsAt(2, "SELECT (1 AS ?a) WHERE { } HAVING (1) @@GROUP BY ?b");
        failsAt(2, "SELECT ?a WHERE { } ORDER @@?a");
        failsAt(2, "SELECT ?a WHERE { } ORDER BY@@");
        failsAt(2, "SELECT ?a WHERE { } ORDER BY @@1");
        failsAt(2, "SELECT ?a WHERE { } ORDER BY ASC @@?a");
        failsAt(2, "SELECT ?a WHERE { } ORDER BY DESC@@");
        failsAt(2, "SELECT ?a WHERE { } ORDER BY (1 @@AS ?b)");
        fresh();
        failsAt(2, "SELECT ?a WHERE { } ORDER BY (@@)");
        failsAt(2, "SELECT ?a WHERE { } ORDER BY ?a @@HAVING (1)");
        failsAt(2, "SELECT ?a WHERE { } LIMIT 1 @@ORDER BY ?a");
        failsAt(2, "SELECT ?a WHERE { } OFFSET 1 @@LIMIT 1");
        failsAt(2, "SELECT ?a WHERE { } LIMIT 1 @@LIMIT 1");
        answers(1, "SELECT ?a WHERE { } OFFSET 0");
        failsAt(2, "ASK { { SELECT ?a WHERE { } LIMIT 1 @@?a } }");
    }

    private static void wholes() {
        about("4: a WHOLE here is not below 0; one that is greater than there are stands for as many as there are");
        answers(3, "INSERT DATA { :a :p 1 , 2 , 3 }");
        String select = "SELECT ?b WHERE { ?a :p ?b } ";
        gives("", select + "LIMIT 0");
        gives("1 / 2", select + "LIMIT 2");
        gives("1 / 2 / 3", select + "LIMIT 3");
        gives("1 / 2 / 3", select + "LIMIT 4");
        gives("1 / 2 / 3", select + "LIMIT 999999999999999999");
        gives("1 / 2 / 3", select + "OFFSET 0");
        gives("3", select + "OFFSET 2");
        gives("", select + "OFFSET 3");
        gives("", select + "OFFSET 4");
        gives("", select + "OFFSET 999999999999999999");
        gives("2", select + "LIMIT 1 OFFSET 1");
        gives("", select + "LIMIT 999999999999999999 OFFSET 999999999999999999");
        fresh();
        failsAt(2, select + "LIMIT @@-1");
        failsAt(2, select + "LIMIT @@1.0");
        failsAt(2, select + "LIMIT @@\"1\"");
        failsAt(2, select + "LIMIT @@?b");
        failsAt(2, select + "LIMIT@@");
        failsAt(2, select + "OFFSET @@-999999999999999999");
        failsAt(2, select + "OFFSET @@true");
        failsAt(2, select + "LIMIT 999999999999999999@@9");
        answers(0, select + "LIMIT -0");
        answers(0, select + "LIMIT \"5\"^^<whole>");
        failsAt(2, "UNRULE @@-1");
        failsAt(2, "UNRULE @@0.0");
        fails(7, 0, "UNRULE 0");
        fails(7, 0, "UNRULE 999999999999999999");
    }

    private static void facts() {
        about("4: facts = fact (. fact)* [.], a fact has its verbs behind ; and its objects behind ,");
        answers(1, "INSERT DATA { :a :p 1 . }");
        answers(5, "INSERT DATA { :a :p 2 , 3 ; :q 4 , 5 . :b :p 6 }");
        failsAt(2, "INSERT DATA { @@}");
        failsAt(2, "INSERT DATA { @@. }");
        failsAt(2, "INSERT DATA { :a @@}");
        failsAt(2, "INSERT DATA { :a :p @@}");
        failsAt(2, "INSERT DATA { :a :p 1 , @@}");
        failsAt(2, "INSERT DATA { :a :p 1 ; @@}");
        failsAt(2, "INSERT DATA { :a :p 1 . @@. }");
        failsAt(2, "INSERT DATA { :a :p 1 @@:b :p 2 }");
        failsAt(2, "INSERT DATA { :a :p 1 ; @@; :q 2 }");
        failsAt(2, "INSERT DATA { :a :p 1@@");
        failsAt(2, "INSERT DATA { :a :p 1 .@@");
        failsAt(2, "INSERT DATA { :a @@^:p 1 }");
        failsAt(2, "INSERT DATA { :a :p@@/:q 1 }");
        failsAt(2, "INSERT DATA { :a :p @@WHERE }");
        failsAt(2, "INSERT DATA { @@FILTER (1) }");
        fresh();
        failsAt(2, "INSERT { @@} WHERE { }");
        failsAt(2, "CONSTRUCT { @@} WHERE { }");
        failsAt(2, "DELETE { ?a :p ?b @@OPTIONAL { } } WHERE { }");
        failsAt(2, "RULE { @@} => { :a :p 1 }");
        failsAt(2, "RULE { :a :p 1 } => { @@}");
        failsAt(2, "RULE { ?a :p@@");
        failsAt(2, "RULE { ?a :p@@+ ?b } => { :a :p 1 }");
        answers(2, "INSERT { ?a :p 1 , 2 ; ?q ?r . } WHERE { VALUES ?a { :z } }");
    }

    private static void groups() {
        about("4: group = { part* } | { SELECT .. }");
        answers(1, "ASK { }");
        answers(1, "ASK { { } }");
        answers(1, "ASK { { } UNION { } UNION { } }");
        answers(1, "ASK { { } { } }");
        answers(1, "ASK { SELECT * WHERE { } }");
        answers(1, "ASK { { SELECT DISTINCT ?a WHERE { } LIMIT 1 } UNION { } }");
        failsAt(2, "ASK { { } @@SELECT * WHERE { } }");
        failsAt(2, "ASK { SELECT * WHERE { } @@{ } }");
        failsAt(2, "ASK { SELECT * WHERE { } @@?a :p ?b }");
        failsAt(2, "ASK { { } UNION @@?a :p ?b }");
        failsAt(2, "ASK { @@UNION { } }");
        failsAt(2, "ASK { { } UNION @@UNION { } }");
        failsAt(2, "ASK { { } UNION @@}");
        failsAt(2, "ASK { { }@@");
        failsAt(2, "ASK { { } @@. { } }");
        failsAt(2, "ASK { @@LIMIT 1 }");
        failsAt(2, "ASK { @@ASK { } }");
        failsAt(2, "ASK { } @@}");
    }

    private static void lines() {
        about("4: a line is as a fact, but each verb may be a path");
        answers(0, "ASK { ?a :p ?b , ?c ; ^:q ?d ; ?v 5 . }");
        failsAt(2, "ASK { ?a @@}");
        failsAt(2, "ASK { ?a :p @@}");
        failsAt(2, "ASK { ?a :p ?b , @@}");
        failsAt(2, "ASK { ?a :p ?b ; @@}");
        failsAt(2, "ASK { ?a :p ?b ; @@. }");
        failsAt(2, "ASK { ?a @@5 ?b }");
        failsAt(2, "ASK { ?a @@\"t\" ?b }");
        failsAt(2, "ASK { ?a @@_:b ?b }");
        failsAt(2, "ASK { ?a ?p@@+ ?b }");
        failsAt(2, "ASK { ?a ?p@@/:p ?b }");
        failsAt(2, "ASK { ?a ^@@?p ?b }");
        failsAt(2, "ASK { @@^:p ?b }");
        failsAt(4, "ASK { @@5 :p ?b }");
        failsAt(4, "ASK { @@\"t\" ^:p ?b }");
        failsAt(4, "ASK { ?a :p ?b . @@true :p ?b }");
        failsAt(4, "ASK { ?a :p ?b @@1.5 :p ?b }");
        answers(0, "ASK { _:a :p ?b . :a :p ?b }");
    }

    private static void dots() {
        about("4: (. line)* [.]; lines go on as long as a TERM or VAR comes");
        answers(0, "ASK { ?a :p ?b . }");
        answers(0, "ASK { ?a :p ?b . ?b :p ?c . FILTER (1) ?d :p ?e . }");
        failsAt(2, "ASK { @@. }");
        failsAt(2, "ASK { ?a :p ?b . @@. }");
        failsAt(2, "ASK { ?a :p ?b . FILTER (1) @@. }");
        failsAt(2, "ASK { FILTER (1) @@. ?a :p ?b }");
        failsAt(2, "ASK { OPTIONAL { } @@. }");
        answers(0, "ASK { ?a :p ?b ?b :p ?c }");
        due("two blocks", "0 1 -1", plan(3));
    }

    private static void optionsAndFilters() {
        about("4: FILTER ( expr ) | FILTER [NOT] EXISTS group | OPTIONAL group | MINUS group");
        answers(1, "ASK { FILTER (1) FILTER EXISTS { } OPTIONAL { } MINUS { } }");
        failsAt(2, "ASK { FILTER @@1 }");
        failsAt(2, "ASK { FILTER @@BOUND(?a) }");
        failsAt(2, "ASK { FILTER (@@) }");
        failsAt(2, "ASK { FILTER (1 @@}");
        failsAt(2, "ASK { FILTER (1 @@AS ?a) }");
        failsAt(2, "ASK { FILTER NOT @@(1) }");
        failsAt(2, "ASK { FILTER NOT @@NOT EXISTS { } }");
        failsAt(2, "ASK { FILTER EXISTS @@(1) }");
        failsAt(2, "ASK { FILTER EXISTS@@");
        failsAt(2, "ASK { OPTIONAL @@?a :p ?b }");
        failsAt(2, "ASK { MINUS @@}");
        failsAt(2, "ASK { OPTIONAL { } @@UNION { } }");
        failsAt(2, "ASK { @@EXISTS { } }");
        failsAt(2, "ASK { @@NOT EXISTS { } }");
    }

    private static void binds() {
        about("4: BIND ( expr AS VAR )");
        answers(1, "ASK { BIND (1 AS ?a) BIND (2 AS ?b) }");
        failsAt(2, "ASK { BIND @@1 }");
        failsAt(2, "ASK { BIND (1@@) }");
        failsAt(2, "ASK { BIND (1 AS @@1) }");
        failsAt(2, "ASK { BIND (1 AS ?a @@, 2) }");
        failsAt(2, "ASK { BIND (@@AS ?a) }");
        failsAt(2, "ASK { BIND (1 AS ?a @@}");
        failsAt(2, "ASK { BIND (1 AS@@");
    }

    private static void values() {
        about("4: VALUES VAR { given* } | VALUES ( VAR+ ) { ( given+ )* }");
        answers(0, "ASK { VALUES ?a { } }");
        answers(0, "ASK { VALUES (?a ?b) { } }");
        answers(1, "ASK { VALUES ?a { UNDEF } }");
        failsAt(2, "ASK { VALUES @@{ } }");
        failsAt(2, "ASK { VALUES (@@) { } }");
        failsAt(2, "ASK { VALUES @@:a { } }");
        failsAt(2, "ASK { VALUES (?a @@:b) { } }");
        failsAt(2, "ASK { VALUES ?a @@?b { } }");
        failsAt(2, "ASK { VALUES ?a { @@?b } }");
        failsAt(2, "ASK { VALUES ?a { @@(1) } }");
        failsAt(2, "ASK { VALUES (?a) { @@1 } }");
        failsAt(2, "ASK { VALUES ?a { 1@@, 2 } }");
        failsAt(2, "ASK { VALUES ?a { 1@@");
        failsAt(2, "ASK { VALUES ?a @@(1) }");
        failsAt(2, "ASK { VALUES (?a @@{ 1 } }");
    }

    private static void valuesRows() {
        about("4: of a row of VALUES with brackets too few or too many given are 2");
        answers(1, "ASK { VALUES (?a ?b) { (1 2) } }");
        failsAt(2, "ASK { VALUES (?a ?b) { (@@) } }");
        failsAt(2, "ASK { VALUES (?a ?b) { (1@@) } }");
        failsAt(2, "ASK { VALUES (?a ?b) { (1 2 @@3) } }");
        failsAt(2, "ASK { VALUES (?a ?b) { (1 2) (1 @@) } }");
        failsAt(2, "ASK { VALUES (?a ?b) { (1 UNDEF @@UNDEF) } }");
        failsAt(2, "ASK { VALUES (?a) { (1 @@2) } }");
        failsAt(2, "ASK { VALUES (?a) { (@@?b) } }");
    }

    private static void paths() {
        about("4: path = steps (| steps)*, steps = step (/ step)*, step = [^] one [* | + | ?]");
        answers(0, "ASK { ?a :p|:q/^:r*|(:s|a)+/:t? ?b }");
        failsAt(2, "ASK { ?a :p| @@?b }");
        failsAt(2, "ASK { ?a :p/ @@?b }");
        failsAt(2, "ASK { ?a ^ @@?b }");
        failsAt(2, "ASK { ?a ^@@^:p ?b }");
        failsAt(2, "ASK { ?a :p*@@* ?b }");
        failsAt(2, "ASK { ?a :p+/ @@?b }");
        failsAt(2, "ASK { ?a :p?@@+ ?b }");
        failsAt(2, "ASK { ?a @@/:p ?b }");
        failsAt(2, "ASK { ?a @@|:p ?b }");
        failsAt(2, "ASK { ?a @@*:p ?b }");
        failsAt(2, "ASK { ?a (@@) ?b }");
        failsAt(2, "ASK { ?a (:p @@?b }");
        failsAt(2, "ASK { ?a (@@?p) ?b }");
        failsAt(2, "ASK { ?a :p@@^ ?b }");
        failsAt(2, "ASK { ?a :p :q :r @@}");
        fresh();
        answers(0, "ASK { ?a (:p) ?b ; ^(:p|:q)* ?c ; (^:p)+ ?d ; ((:p)) ?e }");
        failsAt(2, "ASK { ?a @@A ?b }");
        failsAt(2, "ASK { ?a :p/@@5 ?b }");
        failsAt(2, "ASK { ?a :p|@@\"t\" ?b }");
    }

    private static void pathsBehindNot() {
        about("4: ! none | ! ( none (| none)* ), none = [^] (NAME | a)");
        answers(0, "ASK { ?a !:p ?b ; !^a ?c ; !(:p) ?d ; !(^:p|:q|^a) ?e ; ^!:p* ?f }");
        failsAt(2, "ASK { ?a !@@?p ?b }");
        failsAt(2, "ASK { ?a !@@!:p ?b }");
        failsAt(2, "ASK { ?a !(@@) ?b }");
        failsAt(2, "ASK { ?a !(:p@@/:q) ?b }");
        failsAt(2, "ASK { ?a !(:p@@*) ?b }");
        failsAt(2, "ASK { ?a !(@@!:p) ?b }");
        failsAt(2, "ASK { ?a !(@@(:p)) ?b }");
        failsAt(2, "ASK { ?a !^@@^:p ?b }");
        failsAt(2, "ASK { ?a !^@@(:p) ?b }");
        failsAt(2, "ASK { ?a !(:p| @@?b }");
        failsAt(2, "ASK { ?a !(:p @@?b }");
        failsAt(2, "ASK { ?a !@@* ?b }");
    }

    private static void expressions() {
        about("4: expr: operators, and how closely they bind");
        worth("7", "1+2*3");
        worth("9", "(1+2)*3");
        worth("2", "7 - 3 - 2");
        worth("1.0", "8 / 4 / 2");
        worth("true", "1 || 0 && 0");
        worth("true", "1 + 1 = 2 && 2 * 2 = 4");
        worth("true", "!0 = true");
        worth("-6", "- 2 * 3");
        worth("true", "!!1");
        worth("false", "!-1");
        fresh();
        failsAt(2, "ASK { FILTER (1 +@@) }");
        failsAt(2, "ASK { FILTER (@@* 1) }");
        failsAt(2, "ASK { FILTER (1 @@1) }");
        failsAt(2, "ASK { FILTER (1 ||@@) }");
        failsAt(2, "ASK { FILTER (1 || @@&& 1) }");
        failsAt(2, "ASK { FILTER (1 @@!1) }");
        failsAt(2, "ASK { FILTER (!@@) }");
        failsAt(2, "ASK { FILTER (- @@) }");
        failsAt(2, "ASK { FILTER (1 + @@/ 2) }");
        failsAt(2, "ASK { FILTER ((1 @@}");
        failsAt(2, "ASK { FILTER ((1)@@");
        failsAt(2, "ASK { FILTER (1 @@, 2) }");
        failsAt(2, "ASK { FILTER (1 @@; 2) }");
        failsAt(2, "ASK { FILTER (@@UNDEF) }");
        failsAt(2, "ASK { FILTER (@@*) }");
    }

    private static void comparisons() {
        about("4: test = sum [(= | != | < | > | <= | >=) sum | [NOT] IN ( .. )]: one of these at most");
        String[] signs = {"=", "!=", "<", ">", "<=", ">="};
        for (String one : signs) {
            for (String other : signs) {
                fresh();
                failsAt(2, "ASK { FILTER (1 " + one + " 1 @@" + other + " 1) }");
            }
            failsAt(2, "ASK { FILTER (1 " + one + " 1 @@IN (1)) }");
            failsAt(2, "ASK { FILTER (1 " + one + " 1 @@NOT IN (1)) }");
            failsAt(2, "ASK { FILTER (1 IN (1) @@" + one + " 1) }");
        }
        fresh();
        answers(1, "ASK { FILTER (1 IN (1) && 1 IN (1) || 0) }");
        answers(1, "ASK { FILTER (IF(1 IN (1), 1 + 1, 2) = COALESCE(1 IN (2) || ?x, 1 + 1) && 3 IN (1 IN (1), 1 + 2)) }");
        failsAt(2, "ASK { FILTER (1 IN (1) @@IN (1)) }");
        failsAt(2, "ASK { FILTER (1 IN (1) @@+ 1) }");
        failsAt(2, "ASK { FILTER (1 IN (1) @@* 1) }");
        answers(1, "ASK { FILTER ((1 = 1) = (2 = 2) && (1 IN (1)) = (2 IN (2)) && 1 IN (1) || 1 NOT IN (2)) }");
        failsAt(2, "ASK { FILTER (1 = @@= 1) }");
    }

    private static void inLists() {
        about("4: [NOT] IN ( [expr (, expr)*] )");
        answers(0, "ASK { FILTER (1 IN ()) }");
        answers(1, "ASK { FILTER (1 + 1 NOT IN ()) }");
        answers(1, "ASK { FILTER (1 IN (0, 1 = 2 || 1, 1)) }");
        failsAt(2, "ASK { FILTER (1 IN @@1) }");
        failsAt(2, "ASK { FILTER (1 IN (@@,)) }");
        failsAt(2, "ASK { FILTER (1 IN (1,@@)) }");
        failsAt(2, "ASK { FILTER (1 IN (1 @@2)) }");
        failsAt(2, "ASK { FILTER (1 IN (1@@; 2)) }");
        failsAt(2, "ASK { FILTER (1 NOT @@1) }");
        failsAt(2, "ASK { FILTER (1 NOT @@EXISTS { }) }");
        failsAt(2, "ASK { FILTER (@@IN (1)) }");
        failsAt(2, "ASK { FILTER (1 @@BOUND(?a)) }");
    }

    private static void exists() {
        about("4: value = [NOT] EXISTS group");
        worth("true", "EXISTS { }");
        worth("false", "NOT EXISTS { }");
        worth("true", "EXISTS { } = true");
        worth("false", "!EXISTS { }");
        worth("true", "(EXISTS { }) IN (true)");
        worth("true", "EXISTS { SELECT * WHERE { } }");
        worth("true", "EXISTS { FILTER (1 IN (1)) } = true");
        worth("5", "IF(EXISTS { FILTER (1 = 2) }, 4, 2 + 3)");
        worth("3", "IF(EXISTS { FILTER (1 = 1) }, 1 + 2, 4)");
        fresh();
        failsAt(2, "ASK { FILTER (EXISTS @@1) }");
        failsAt(2, "ASK { FILTER (NOT @@1) }");
        failsAt(2, "ASK { FILTER (NOT @@IN (1)) }");
        failsAt(2, "ASK { FILTER (1 + NOT @@NOT EXISTS { }) }");
        failsAt(2, "ASK { FILTER (EXISTS { } @@{ }) }");
    }

    private static void bounds() {
        about("4: BOUND ( VAR )");
        answers(0, "ASK { FILTER (BOUND(?a)) }");
        failsAt(2, "ASK { FILTER (BOUND @@?a) }");
        failsAt(2, "ASK { FILTER (BOUND(@@)) }");
        failsAt(2, "ASK { FILTER (BOUND(@@:a)) }");
        failsAt(2, "ASK { FILTER (BOUND(@@(?a))) }");
        failsAt(2, "ASK { FILTER (BOUND(?a @@+ 1)) }");
        failsAt(2, "ASK { FILTER (BOUND(?a@@, ?b)) }");
        failsAt(2, "ASK { FILTER (BOUND(@@BOUND(?a))) }");
    }

    /** Names, and how many they take: at least, at most. */
    private static final String[] FUNCTIONS = {"IF 3 3", "COALESCE 1 8", "CONCAT 0 8", "STRLEN 1 1", "UCASE 1 1",
        "LCASE 1 1", "STR 1 1", "LANG 1 1", "DATATYPE 1 1", "TONAME 1 1", "ISNAME 1 1", "ISBLANK 1 1", "ISLITERAL 1 1",
        "ISNUMERIC 1 1", "ABS 1 1", "CEIL 1 1", "FLOOR 1 1", "ROUND 1 1", "STRSTARTS 2 2", "STRENDS 2 2",
        "CONTAINS 2 2", "STRBEFORE 2 2", "STRAFTER 2 2", "SAMETERM 2 2", "SUBSTR 3 3"};

    private static void functions() {
        about("4: FUNCTIONS, with how many they take");
        for (String function : FUNCTIONS) {
            String[] parts = function.split(" ");
            int least = Integer.parseInt(parts[1]);
            int most = Integer.parseInt(parts[2]);
            String call = "ASK { FILTER (" + parts[0];
            fresh();
            for (int n = 0; n <= most + 1; n++) {
                String inside = call + "(" + repeat("1", ",", n);
                run(inside + ") ) }");
                int length = n > most ? call.length() + 2 * most : inside.length();
                due(parts[0] + " of " + n, n < least || n > most ? "2 at " + length : "none",
                    store().rows() == 0 && store().place() == inside.length() + 5 ? "none" : "2 at " + store().place());
            }
            failsAt(2, call + " @@1) }");
            failsAt(2, call + "@@) }");
            if (least > 0) {
                failsAt(2, call + "(@@*)) }");
                failsAt(2, call + "(@@DISTINCT 1)) }");
            }
            failsAt(2, call + "(" + repeat("1", ",", Math.max(1, least)) + "@@;\"\")) }");
        }
        fresh();
        failsAt(2, "ASK { FILTER (STRLEN(1@@,)) }");
        failsAt(2, "ASK { FILTER (COALESCE(1,@@)) }");
    }

    private static void aggregates() {
        about("4: COUNT ( [DISTINCT] (* | expr) ) | (SUM ..) ( [DISTINCT] expr ) | GROUPCONCAT ( [DISTINCT] expr [; TEXT] )");
        answers(1, "SELECT (COUNT(*) AS ?a) (COUNT(DISTINCT *) AS ?b) (COUNT(1) AS ?c) (COUNT(DISTINCT 1 + 1) AS ?d) WHERE { }");
        String[] names = {"SUM", "MIN", "MAX", "AVG", "SAMPLE", "GROUPCONCAT"};
        for (String name : names) {
            fresh();
            answers(1, "SELECT (" + name + "(1) AS ?a) (" + name + "(DISTINCT 1 + 1) AS ?b) WHERE { }");
            failsAt(2, "SELECT (" + name + "(@@*) AS ?a) WHERE { }");
            failsAt(2, "SELECT (" + name + "(DISTINCT @@*) AS ?a) WHERE { }");
            failsAt(2, "SELECT (" + name + "(@@) AS ?a) WHERE { }");
            failsAt(2, "SELECT (" + name + "(DISTINCT @@) AS ?a) WHERE { }");
            failsAt(2, "SELECT (" + name + "(1@@, 2) AS ?a) WHERE { }");
            failsAt(2, "SELECT (" + name + " @@1 AS ?a) WHERE { }");
        }
        fresh();
        failsAt(2, "SELECT (COUNT(@@) AS ?a) WHERE { }");
        failsAt(2, "SELECT (COUNT(* @@+ 1) AS ?a) WHERE { }");
        failsAt(2, "SELECT (COUNT(*@@, *) AS ?a) WHERE { }");
        failsAt(2, "SELECT (COUNT(1 @@; \"\") AS ?a) WHERE { }");
        failsAt(2, "SELECT (COUNT(DISTINCT @@DISTINCT 1) AS ?a) WHERE { }");
        answers(1, "SELECT (GROUPCONCAT(1 ; \"\") AS ?a) (GROUPCONCAT(DISTINCT 1;\"x\"^^<text>) AS ?b) WHERE { }");
        fresh();
        failsAt(2, "SELECT (GROUPCONCAT(1 ; @@) AS ?a) WHERE { }");
        failsAt(2, "SELECT (GROUPCONCAT(1 ; @@?b) AS ?a) WHERE { }");
        failsAt(2, "SELECT (GROUPCONCAT(1 ; @@1) AS ?a) WHERE { }");
        failsAt(2, "SELECT (GROUPCONCAT(1 ; @@\"t\"@en) AS ?a) WHERE { }");
        failsAt(2, "SELECT (GROUPCONCAT(1 ; @@\"t\"^^<n>) AS ?a) WHERE { }");
        failsAt(2, "SELECT (GROUPCONCAT(1 ; \"\" @@; \"\") AS ?a) WHERE { }");
        failsAt(2, "SELECT (GROUPCONCAT(1 ; \"\" @@+ \"\") AS ?a) WHERE { }");
        failsAt(2, "SELECT (GROUPCONCAT(@@; \"\") AS ?a) WHERE { }");
        failsAt(2, "SELECT (GROUPCONCAT((1 @@; \"\")) AS ?a) WHERE { }");
    }

    private static void patternsAndPathLines() {
        about("4: a line of a verb that is a NAME, a, or VAR alone is a PATTERN, else a PATH LINE");
        answers(0, "ASK { ?a :p ?b ; a ?c ; ?v ?d , ?e }");
        due("four patterns", "0 1 2 3 -1", plan(5));
        answers(0, "ASK { ?a (:p) ?b ; ^:p ?c ; !:p ?d ; :p* ?e ; :p|:p ?f }");
        due("none", "-1", plan(1));
        answers(0, "ASK { ?a (:p) ?b ; :p ?c ; :p+ ?d ; :q ?e }");
        due("two", "0 1 -1", plan(3));
    }
}
