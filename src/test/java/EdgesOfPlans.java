/** Part 7, PLANS: estimates, sizes, the plan, and what a statement makes, piece by piece. */
public final class EdgesOfPlans extends Check {
    public static void main(String[] args) {
        least();
        ties();
        roundedUp();
        noneIsNothing();
        termsAreLookedAt();
        variableTwice();
        allKnown();
        predicates();
        sizesMultiply();
        sumsBelowTheEnd();
        sumsAtTheEnd();
        blocksByThemselves();
        blocksAsTheyStand();
        plansGoByWhatHeld();
        plansOfFaults();
        rowsOfPatterns();
        rowsOfPaths();
        rowsOfOptional();
        rowsOfUnions();
        rowsOfSelects();
        rowsOfValues();
        rowsOfSets();
        rowsOfFacts();
        groups();
        groupsOfEmptyBags();
        groupsOfSelects();
        groupsOfExists();
        values();
        valuesOfRows();
        valuesOfCalls();
        valuesOfItems();
        valuesOfAggregates();
        valuesNotNeeded();
        minusMakesNone();
        finish();
    }

    /** The statement's plan, one place more than it has. */
    private static void planned(String want, String text) {
        run(text);
        due(text + ": plan", want + " -1", plan(want.length() == 0 ? 1 : want.split(" ").length + 1).trim());
    }

    private static void least() {
        about("7: the plan of a block is the order with the least sum of all sizes");
        answers(6, "INSERT DATA { :a :p 1 , 2 , 3 , 4 . :a :q 1 . :b :q 2 }");
        planned("1 0", "ASK { ?a :p ?b . ?c :q ?d }");
        planned("0 1", "ASK { ?c :q ?d . ?a :p ?b }");
        // (p, q): 4 + 4 * 1; (q, p): 2 + 2 * 4
        planned("0 1", "ASK { ?a :p ?b . ?a :q ?c }");
        planned("1 0", "ASK { ?a :q ?c . ?a :p ?b }");
        planned("1 0", "ASK { ?a :p ?b . ?a :q 1 }");
        planned("0", "ASK { ?a :p ?b }");
    }

    private static void ties() {
        about("7: of these the one with the least first pattern, then the least second one, ..");
        answers(4, "INSERT DATA { :a :p 1 , 2 . :a :q 1 , 2 }");
        planned("0 1", "ASK { ?a :p ?b . ?c :q ?d }");
        planned("0 1", "ASK { ?c :q ?d . ?a :p ?b }");
        planned("0 1 2 3 4 5 6", "ASK { ?a :p ?b . ?c :q ?d . ?e :p ?f . ?g :q ?h . ?i :p ?j . ?k :q ?l . ?m :p ?n }");
        planned("1 0 2", "ASK { ?a :p ?b . ?c :p 1 . ?e :q ?f }");
        planned("2 0 1", "ASK { ?a :p ?b . ?c :q ?d . ?e :p 1 }");
        planned("0 1 2", "ASK { :a :p 1 . :a :p 2 . :a :q 1 }");
    }

    private static void roundedUp() {
        about("7: N divided by all these D, rounded up");
        answers(6, "INSERT DATA { :a :p 1 , 2 . :b :p 1 . :a :q 1 . :b :q 2 . :c :q 3 }");
        // p: 3, 2 when ?x is known (3 / 2); q: 3, 1 when it is known. (q, p): 3 + 6; (p, q): 3 + 3.
        planned("1 0", "ASK { ?x :q ?z . ?x :p ?y }");
        about("7: rounded up, to 1 where it is less");
        answers(4, "INSERT DATA { :a :p 1 . :b :p 2 . :a :q 1 . :b :q 2 }");
        // Both known: 2 / (2 * 2) is 1. (0, 1): 2 + 2; all alike.
        planned("0 1", "ASK { ?x :q ?y . ?x :p ?y }");
        answers(2, "INSERT DATA { :c :p 3 . :d :p 4 }");
        planned("0 1", "ASK { ?x :q ?y . ?x :p ?y }");
        planned("1 0", "ASK { ?x :p ?y . ?x :q ?y }");
    }

    private static void noneIsNothing() {
        about("7: its estimate is 0 when N is 0");
        answers(4, "INSERT DATA { :a :p 1 , 2 , 3 . :a :q 1 }");
        planned("1 0", "ASK { ?x :p ?y . ?x :none ?z }");
        planned("0 1", "ASK { ?x :none ?z . ?x :p ?y }");
        // (q, none, p) and (p, none, q) are 1 and 3, none first is 0.
        planned("2 0 1", "ASK { ?x :p ?y . ?x :q ?z . ?x :none ?w }");
        planned("1 0 2", "ASK { ?x :p ?y . ?x :p 9 . ?x :q ?z }");
        planned("0 1", "ASK { ?x :none ?y . ?x :nothing ?z }");
        about("7: in an empty store all are 0");
        planned("0 1 2", "ASK { ?a ?b ?c . ?d ?e ?f . ?g ?h ?i }");
    }

    private static void termsAreLookedAt() {
        about("7: N triples that hold have its terms (variables not looked at)");
        answers(4, "INSERT DATA { :a :p 1 , 2 . :b :p 1 . :a :q :a }");
        planned("1 0", "ASK { ?a :p ?b . ?c ?d :a }");
        planned("1 0", "ASK { ?a :p ?b . :a :p ?c }");
        planned("0 1", "ASK { ?a :p 1 . :a :p ?c }");
        planned("1 0", "ASK { ?a ?b ?c . ?d :p ?e }");
        // ?x :q ?x has N = 1, be there one or not.
        planned("1 0", "ASK { ?a :p 1 . ?x :q ?x }");
        answers(1, "INSERT DATA { :c :q 1 }");
        planned("0 1", "ASK { ?a :p 1 . ?x :q ?x }");
        planned("0 1", "ASK { ?x :q ?x . ?a :p 1 }");
    }

    private static void variableTwice() {
        about("7: for each place where a known variable stands");
        answers(7, "INSERT DATA { :a :p :a , :b . :b :p :a , :b . :a :q 1 . :b :q 1 . :c :q 1 }");
        // ?x :p ?x: 4, and 4 / (2 * 2) when ?x is known; q: 3, and 1. (p, q): 4 + 4; (q, p): 3 + 3.
        planned("1 0", "ASK { ?x :p ?x . ?x :q ?y }");
    }

    private static void allKnown() {
        about("7: the variables of those before known, of all of them");
        answers(7, "INSERT DATA { :a :p 1 , 2 , 3 , 4 . :a :q :b . :b :r 1 . :b :s 5 }");
        // (q, r, p): 1 + 1 + 1, p last with both known; (q, p, r): 1 + 4 + 4.
        planned("1 2 0", "ASK { ?x :p ?y . ?x :q ?z . ?z :r ?y }");
        planned("0 2 1", "ASK { ?x :q ?z . ?x :p ?y . ?z :r ?y }");
    }

    private static void predicates() {
        about("7: a known variable may stand in the predicate's place");
        answers(8, "INSERT DATA { :a :p 1 . :a :q 2 . :a :r 3 . :a :s 4 . :m :w :p . :m :w :q . :m :x 1 . :m :y 1 }");
        // ?k known: 8 / 7 different predicates are 2, ?a and ?b not known.
        planned("1 0", "ASK { ?a ?k ?b . :m :w ?k }");
        planned("1 0", "ASK { :a ?k ?b . :m :w ?k }");
    }

    private static void sizesMultiply() {
        about("7: the size before it times its estimate");
        answers(9, "INSERT DATA { :a :p 1 , 2 . :a :q 1 , 2 , 3 . :a :r 1 , 2 , 3 , 4 }");
        planned("2 1 0", "ASK { ?a :r ?b . ?c :q ?d . ?e :p ?f }");
        planned("1 2 0", "ASK { ?a :r ?b . ?c :p ?d . ?e :q ?f }");
        // r behind p is 2 * 4 whether ?a is known or not.
        planned("1 0", "ASK { ?a :r ?b . ?a :p ?d }");
        // ?b known: r is 1. (q, r): 3 + 3; (r, q): 4 + 4.
        planned("1 0", "ASK { ?a :r ?b . ?a :q ?b }");
    }

    /** Numbers, so many of :a :k and so many of :a :j. */
    private static void crowd(int k, int j) {
        fresh();
        run("INSERT DATA { :a :k " + range(0, k - 1, ",") + " }");
        run("INSERT DATA { :a :j " + range(0, j - 1, ",") + " }");
    }

    private static void sumsBelowTheEnd() {
        about("7: sums below 10^12");
        crowd(99, 98);
        planned("5 0 1 2 3 4", "ASK { " + repeat("?a# :k ?b#", " . ", 5) + " . ?c :j ?d }");
        due("fault 5", 8000, store().made());
        // 99 * 10101010101 is 10^12 - 1; all other orders make 10^12 at least.
        crowd(100, 99);
        planned("5 0 1 2 3 4", "ASK { " + repeat("?a# :k ?b#", " . ", 5) + " . ?c :j ?d }");
    }

    private static void sumsAtTheEnd() {
        about("7: the least sum of all sizes (at most 10^12): beyond it all are alike");
        crowd(101, 100);
        planned("0 1 2 3 4 5", "ASK { " + repeat("?a# :k ?b#", " . ", 5) + " . ?c :j ?d }");
        crowd(60, 59);
        planned("0 1 2 3 4 5 6", "ASK { " + repeat("?a# :k ?b#", " . ", 6) + " . ?c :j ?d }");
        planned("5 0 1 2 3 4", "ASK { " + repeat("?a# :k ?b#", " . ", 5) + " . ?c :j ?d }");
        planned("6 0 1 2 3 4 5", "ASK { " + repeat("?a# :k ?b#", " . ", 6) + " . ?c :none ?d }");
        // An estimate of 0 behind a size of 10^12 is 0.
        planned("5 0 1 2 3 4", "ASK { " + repeat("?a# :k ?b#", " . ", 5) + " . ?c :k 1 }");
    }

    private static void blocksByThemselves() {
        about("7: in each block nothing is known at first");
        answers(6, "INSERT DATA { :a :p 1 , 2 , 3 , 4 . :a :q 1 . :b :q 2 }");
        planned("0 2 1", "ASK { ?c :q ?x ?a :p ?b . ?c :q ?d }");
        planned("0 1 2", "ASK { ?c :q ?x . ?a :q ?b FILTER (1) ?c :p ?d }");
        planned("0 1", "ASK { ?a :p ?b ?c :q ?d }");
        planned("0 1", "ASK { ?a :p ?b . ?c :p+ ?d FILTER (1) ?c :q ?d }");
    }

    private static void blocksAsTheyStand() {
        about("12: block after block as they stand in the text, patterns by their objects");
        answers(6, "INSERT DATA { :a :p 1 , 2 , 3 , 4 . :a :q 1 . :b :q 2 }");
        planned("1 0 3 2 5 4 7 6", "SELECT (EXISTS { ?a :p ?b . ?c :q ?d } AS ?n) WHERE { ?e :p ?f . ?g :q ?h OPTIONAL { ?i :p ?j . ?k :q ?l } } "
            + "ORDER BY (EXISTS { ?m :p ?o . ?p :q ?q })");
        planned("1 0", "ASK { ?a :p ?b ; :q 1 }");
        // ?a known: 4 / 1 and 6 / 2.
        planned("1 2 0", "ASK { ?a :p ?b , 1 ; ?v ?w }");
        planned("0", "INSERT { ?a :p ?b . ?b :q ?a . ?a :q ?b } WHERE { ?a :p 1 }");
        planned("1 0", "DELETE { ?a ?b ?c } INSERT { ?a :k ?c , ?b } WHERE { ?a ?b ?c . ?a :q ?c }");
        planned("0", "CONSTRUCT { ?a :p ?b } WHERE { ?a :p ?b }");
        planned("0", "ASK { ?a ^:p ?b ; :q ?c ; :p* ?d }");
        planned("1 0", "ASK { MINUS { ?a :p ?b . ?a :q 2 } }");
    }

    private static void plansGoByWhatHeld() {
        about("12: plans go by what held before");
        answers(3, "INSERT DATA { :a :p 1 , 2 . :a :q 1 }");
        planned("1 0", "INSERT { :b :q 3 , 4 , 5 , 6 } WHERE { ?a :p ?b . ?c :q ?d }");
        planned("0 1", "DELETE { ?c :q ?d } WHERE { ?a :p ?b . ?c :q ?d }");
        planned("1 0", "ASK { ?a :p ?b . ?c :q ?d }");
        answers(0, "RULE { ?a :p ?b } => { ?a :q ?b , 1 , 2 }");
        planned("0 1", "ASK { ?a :p ?b . ?c :q ?d }");
    }

    private static void plansOfFaults() {
        about("12: BAD when there was a fault but 5");
        answers(20, "INSERT DATA { :a :p " + range(0, 19, ",") + " }");
        run("ASK { ?a :p ?b , ?c , ?d , ?e }");
        due("fault 5", "8000 0 1 2 3 -1", store().made() + " " + plan(5));
        failsAt(2, "ASK { ?a :p ?b } @@5");
        fails(7, 0, "UNRULE 0");
        run("ASK { ?a :p ?b }");
        run("ASK { ?a :p ?b , ?c , ?d , ?e }");
        run("ASK { ?a :p ?b , ?c , ?d , ?e }");
        run("ASK { ?a :p ?b , ?c }");
        due("with nothing left, too", "8000 0 1 -1", store().made() + " " + plan(3));
        answers(20, "CLEAR");
        due("without a group none", "-1", plan(1));
    }

    // What is made.

    private static void facts(String sentence) {
        about(sentence);
        answers(4, "INSERT DATA { :a :p 1 , 2 . :b :p 1 . :a :q :b }");
    }

    private static void rowsOfPatterns() {
        facts("7: rows made: each row that a pattern gives");
        made(1 + 1 + 3, "ASK { ?a :p ?b }");
        made(1 + 1 + 0, "ASK { ?a :none ?b }");
        made(1 + 2 + 3 + 5, "ASK { ?a :p ?b . ?a :p ?c }");
        made(1 + 2 + 1 + 2, "ASK { ?a :p ?b . ?a :q ?c }");
        made(1 + 3 + 0, "ASK { ?a :p ?b . ?a :none ?c . ?a :q ?d }");
        made(1 + 1 + 4, "ASK { ?a ?b ?c }");
        made(1 + 1 + 1, "ASK { :a :p 1 }");
    }

    private static void rowsOfPaths() {
        facts("7: rows made: each row that a path line gives");
        made(1 + 1 + 3, "ASK { ?a ^:p ?b }");
        made(1 + 1 + 6, "ASK { ?a :p|:p ?b }");
        made(1 + 1 + 1, "ASK { :a :q/:p ?b }");
        made(1 + 1 + 4, "ASK { ?a :none* ?b }");
        made(1 + 1 + 1, "ASK { :new :p* ?b }");
        made(1 + 2 + 3 + 3, "ASK { ?a :p ?b ; :none? ?a }");
        made(1 + 2 + 1 + 3, "ASK { ?a :q ?b ; :p? ?c }");
    }

    private static void rowsOfOptional() {
        facts("7: rows made: that OPTIONAL joins (also one that a FILTER of it refuses) or leaves as it is");
        made(1 + 2 + 3 + (1 + 1 + 1) + 3, "ASK { ?a :p ?b OPTIONAL { ?a :q ?c } }");
        made(1 + 1 + 1 + 1, "ASK { OPTIONAL { } }");
        made(1 + 2 + 3 + (1 + 1) + 3, "ASK { ?a :p ?b OPTIONAL { ?a :none ?c } }");
        made(1 + 2 + 3 + (1 + 2 + 1) + (2 + 2 * 1 + 3), "ASK { ?a :p ?b OPTIONAL { ?a :q ?c FILTER (0) } }");
        made(1 + 2 + 0 + (1 + 1 + 3), "ASK { ?a :none ?b OPTIONAL { ?a :p ?c } }");
    }

    private static void rowsOfUnions() {
        facts("7: rows made: that is joined by UNION (or one group)");
        made(1 + 1 + (1 + 1 + 3) + 3, "ASK { { ?a :p ?b } }");
        made(1 + 2 + (1 + 1 + 3) + (1 + 1 + 1) + 4, "ASK { { ?a :p ?b } UNION { ?a :q ?b } }");
        made(1 + 2 + 3 + (1 + 1 + 1) + 2, "ASK { ?a :p ?b { ?a :q ?c } }");
        made(1 + 2 + 1 + 1 + 2, "ASK { { } UNION { } }");
        made(1 + 2 + 1 + 1 + 1 + 1, "ASK { { } { } }");
        made(1 + 2 + 3 + 1 + 3, "ASK { ?a :p ?b { } }");
    }

    private static void rowsOfSelects() {
        facts("7: rows made: that is joined by SELECT; six groups for a group that is a SELECT");
        made(6 + (1 + 1 + 3) + 3, "ASK { SELECT ?a WHERE { ?a :p ?b } }");
        made(1 + 1 + 6 + (1 + 1 + 3) + 3 + 3, "ASK { { SELECT ?a WHERE { ?a :p ?b } } }");
        made(6 + (1 + 1 + 3) + 1, "ASK { SELECT ?a WHERE { ?a :p ?b } LIMIT 1 }");
        made(6 + (1 + 1 + 3) + 2, "ASK { SELECT DISTINCT ?a WHERE { ?a :p ?b } }");
        made(6 + 6 + 1 + 1, "SELECT * WHERE { SELECT * WHERE { } }");
        made(1 + 2 + 3 + 6 + (1 + 1 + 1) + 1 + 2, "ASK { ?a :p ?b { SELECT ?a WHERE { ?a :q ?c } } }");
        made(1 + 2 + 3 + 6 + (1 + 1 + 1) + 1 + 3, "ASK { ?a :p ?b OPTIONAL { SELECT ?a WHERE { ?a :q ?c } } }");
        made(1 + 2 + 3 + 6 + (1 + 1 + 1) + 1, "ASK { ?a :p ?b MINUS { SELECT ?a WHERE { ?a :q ?c } } }");
    }

    private static void rowsOfValues() {
        facts("7: rows made: that is joined by VALUES; one group and one for each of its rows");
        made(1 + 1 + 0, "ASK { VALUES ?a { } }");
        made(1 + 1 + 1 + 1, "ASK { VALUES ?a { UNDEF } }");
        made(1 + 1 + 3 + 3, "ASK { VALUES ?a { 1 1 2 } }");
        made(1 + 1 + 2 + 2, "ASK { VALUES (?a ?b) { (1 2) (3 4) } }");
        made(1 + 1 + 1 + 2 + 3 + 1, "ASK { ?a :p ?b VALUES (?a ?b) { (:b 1) (:c 1) } }");
        made(1 + 1 + 1 + 1 + 1 + 1 + 1, "ASK { VALUES ?a { 1 } MINUS { } VALUES ?b { } }");
    }

    private static void rowsOfSets() {
        facts("7: rows made: each set");
        made(6 + (1 + 1 + 3) + 1 + 1, "SELECT (COUNT(*) AS ?n) WHERE { ?a :p ?b }");
        made(6 + (1 + 1 + 3) + 2, "SELECT ?a WHERE { ?a :p ?b } GROUP BY ?a");
        made(6 + (1 + 1 + 0) + 0, "SELECT ?a WHERE { ?a :none ?b } GROUP BY ?a");
        made(6 + (1 + 1 + 0) + 1 + 1, "SELECT (COUNT(*) AS ?n) WHERE { ?a :none ?b }");
        made(6 + (1 + 1 + 3) + 2 + 2, "SELECT ?a WHERE { ?a :p ?b } GROUP BY ?a HAVING (0)");
        made(6 + 1 + 1 + 1, "SELECT (1 AS ?n) WHERE { } HAVING (0)");
    }

    private static void rowsOfFacts() {
        facts("7: rows made: each triple that the facts of a CONSTRUCT, DELETE, INSERT with WHERE give (each once for each facts)");
        made(1 + 1 + 3 + 2, "CONSTRUCT { ?a :k 1 } WHERE { ?a :p ?b }");
        made(1 + 1 + 3 + 3, "CONSTRUCT { ?a :k 1 . ?a :k 1 . :z :k 1 } WHERE { ?a :p ?b }");
        made(1 + 1 + 3 + 0, "CONSTRUCT { ?b :k 1 . ?a ?b 1 . ?a :k ?z } WHERE { ?a :p ?b }");
        made(1 + 1 + 3 + 3 + 3, "DELETE { ?a :p ?b } INSERT { ?a :p ?b } WHERE { ?a :p ?b }");
        made(1 + 1 + 3 + 2, "DELETE { ?a :none 1 } WHERE { ?a :p ?b }");
        made(1 + 1 + 3 + 2, "INSERT { ?a :k 1 } WHERE { ?a :p ?b }");
        made(1 + 1 + 3 + 2, "INSERT { ?a :k 1 } WHERE { ?a :p ?b }");
        made(1 + 1, "INSERT { :a :p 1 } WHERE { }");
    }

    private static void groups() {
        facts("7: groups made: one for itself, one for each pattern or path line, FILTER, OPTIONAL, MINUS, BIND and group");
        made(1, "ASK { }");
        made(1 + 3, "ASK { ?a :none ?b , ?c ; ^:none ?d }");
        made(1 + 1 + 1, "ASK { FILTER (0) }");
        made(1 + 2 + 2, "ASK { FILTER (0) FILTER (1) }");
        made(1 + 1 + 1, "ASK { MINUS { } }");
        made(1 + 1 + 1, "ASK { BIND (1 AS ?a) }");
        made(1 + 1 + 1 + 1, "ASK { { } }");
        made(1 + 3 + 3 + 3, "ASK { { } UNION { } UNION { } }");
        made(1 + 1 + (1 + 1 + (1 + 1 + (1) + 1) + 1) + 1, "ASK { { { { } } } }");
        made(1 + 1 + 1 + 1, "ASK { FILTER EXISTS { } }");
    }

    private static void groupsOfEmptyBags() {
        facts("7: groups are done whenever they are come to: a part whose bag is empty as well");
        made(1 + 2 + (1 + 1 + 3), "ASK { ?a :none ?b OPTIONAL { ?a :p ?c } }");
        made(1 + 2 + (1 + 1 + 3), "ASK { ?a :none ?b MINUS { ?a :p ?c } }");
        made(1 + 2 + (1 + 1 + 3), "ASK { ?a :none ?b { ?a :p ?c } }");
        made(1 + 2 + (6 + 1 + 1 + 3 + 3), "ASK { ?a :none ?b { SELECT * WHERE { ?a :p ?c } } }");
        made(1 + 1 + 1 + 2, "ASK { ?a :none ?b VALUES ?a { 1 2 } }");
        made(1 + 2, "ASK { ?a :none ?b BIND (1 AS ?c) }");
        made(1 + 2, "ASK { ?a :none ?b FILTER (1) }");
        made(1 + 2, "ASK { ?a :none ?b FILTER EXISTS { ?a :p ?b } }");
        made(1 + 2, "ASK { ?a :none ?b ?a :p ?c }");
        made(1 + 2 + 3 + 0, "ASK { ?a :p ?b ?a :none ?c }");
    }

    private static void groupsOfSelects() {
        about("7: six for a SELECT that is the statement");
        made(6 + 1, "SELECT * WHERE { }");
        made(6 + 1, "SELECT DISTINCT ?a ?b WHERE { } LIMIT 0 OFFSET 5");
        made(6 + 1 + 1, "SELECT ?a WHERE { } GROUP BY ?a");
        made(6 + 1 + 1 + 1 + 1 + 1, "SELECT * WHERE { OPTIONAL { } } ORDER BY ?a");
    }

    private static void groupsOfExists() {
        facts("7: EXISTS for each row anew");
        made(1 + 2 + 3 + 3 * (1 + 1), "ASK { ?a :p ?b FILTER EXISTS { } }");
        made(1 + 2 + 3 + 3 * (1 + 1 + 1) + 2, "ASK { ?a :p ?b FILTER EXISTS { ?a :q ?c } }");
        made(1 + 2 + 3 + 3 * (1 + 6 + 1 + 1), "ASK { ?a :p ?b FILTER NOT EXISTS { SELECT * WHERE { } } }");
        made(1 + 2 + 3 + 3 * (2 + 1), "ASK { ?a :p ?b FILTER (!EXISTS { }) }");
        made(6 + (1 + 1 + 3) + 3 * (1 + 1), "SELECT (EXISTS { } AS ?n) WHERE { ?a :p ?b }");
        made(6 + (1 + 1 + 3) + 2 + 2 * (1 + 1), "SELECT ?a WHERE { ?a :p ?b } GROUP BY ?a HAVING (EXISTS { })");
    }

    private static void values() {
        about("7: values made: each TERM, VAR, other sign, function, IN, EXISTS");
        made(1 + 1 + 1, "ASK { FILTER (1) }");
        made(1 + 1 + 1, "ASK { FILTER (?a) }");
        made(1 + 1 + 1, "ASK { FILTER (((1))) }");
        made(1 + 1 + 3, "ASK { FILTER (1 + 1) }");
        made(1 + 1 + 5, "ASK { FILTER (1 + 1 - 1) }");
        made(1 + 1 + 3, "ASK { FILTER (1 != 1) }");
        made(1 + 1 + 2, "ASK { FILTER (!1) }");
        made(1 + 1 + 4, "ASK { FILTER (!!- 1) }");
        made(1 + 1 + 1, "ASK { FILTER (-1) }");
        made(1 + 1 + 2, "ASK { FILTER (1 IN ()) }");
        made(1 + 1 + 4, "ASK { FILTER (1 NOT IN (1, 2)) }");
        made(1 + 1 + 1 + 1, "ASK { FILTER (NOT EXISTS { }) }");
        made(1 + 1 + 1 + 1, "ASK { FILTER NOT EXISTS { } }");
    }

    private static void valuesOfRows() {
        about("7: values made: each row of ||, row of &&");
        made(1 + 1 + 3, "ASK { FILTER (1 || 1) }");
        made(1 + 1 + 4, "ASK { FILTER (1 || 1 || 1) }");
        made(1 + 1 + 5, "ASK { FILTER (1 || (1 || 1)) }");
        made(1 + 1 + 5, "ASK { FILTER ((1 || 1) || 1) }");
        made(1 + 1 + 4, "ASK { FILTER (1 && 1 && 1) }");
        made(1 + 1 + 5, "ASK { FILTER (1 || 1 && 1) }");
        made(1 + 1 + 7, "ASK { FILTER (1 && 1 || 1 && 1) }");
        made(1 + 1 + 8, "ASK { FILTER (1 && 1 || 1 && 1 || 1) }");
        made(1 + 1 + 41, "ASK { FILTER (" + repeat("1", "||", 40) + ") }");
    }

    private static void valuesOfCalls() {
        about("7: values made: each function (BOUND, too), aggregate");
        made(1 + 1 + 2, "ASK { FILTER (ABS(1)) }");
        made(1 + 1 + 4, "ASK { FILTER (IF(1, 2, 3)) }");
        made(1 + 1 + 1, "ASK { FILTER (CONCAT()) }");
        made(1 + 1 + 9, "ASK { FILTER (COALESCE(1, 2, 3, 4, 5, 6, 7, 8)) }");
        made(1 + 1 + 2, "ASK { FILTER (BOUND(?a)) }");
        made(6 + 1 + 1 + 1, "SELECT (COUNT(*) AS ?n) WHERE { }");
        made(6 + 1 + 1 + 1, "SELECT (COUNT(DISTINCT *) AS ?n) WHERE { }");
        made(6 + 1 + 1 + 2, "SELECT (COUNT(1) AS ?n) WHERE { }");
        made(6 + 1 + 1 + 2, "SELECT (GROUPCONCAT(1 ; \"\") AS ?n) WHERE { }");
        made(6 + 1 + 1 + 3, "SELECT (SUM(DISTINCT - 1) AS ?n) WHERE { }");
    }

    private static void valuesOfItems() {
        facts("7: values made: a VAR that is a key alone, too; an item alone is none");
        made(6 + 5, "SELECT ?a ?b WHERE { ?a :p ?b }");
        made(6 + 5 + 3, "SELECT (?a AS ?n) WHERE { ?a :p ?b }");
        made(6 + 5 + 3, "SELECT ?a WHERE { ?a :p ?b } ORDER BY ?a");
        made(6 + 5 + 3, "SELECT ?a WHERE { ?a :p ?b } ORDER BY (?a)");
        made(6 + 5 + 6, "SELECT ?a WHERE { ?a :p ?b } ORDER BY ?a DESC(?b)");
        made(6 + 5 + 2 + 2, "SELECT ?a WHERE { ?a :p ?b } GROUP BY ?a ORDER BY ?a");
        made(6 + 5 + 3 + 2, "SELECT ?n WHERE { ?a :p ?b } GROUP BY (?a AS ?n)");
        made(6 + 5 + 2 + 2 + 2, "SELECT (?a AS ?n) WHERE { ?a :p ?b } GROUP BY ?a HAVING (1)");
        made(6 + 5 + 2 + 2 + 0, "SELECT (?a AS ?n) WHERE { ?a :p ?b } GROUP BY ?a HAVING (0) ORDER BY ?a");
        made(6 + 5 + 3, "SELECT ?a WHERE { ?a :p ?b } ORDER BY ?a LIMIT 0");
    }

    private static void valuesOfAggregates() {
        facts("7: values made: of an aggregate each time that it is worked out");
        made(6 + 5 + 1 + (1 + 3), "SELECT (COUNT(?b) AS ?n) WHERE { ?a :p ?b }");
        made(6 + 5 + 1 + (1 + 3), "SELECT (COUNT(DISTINCT ?b) AS ?n) WHERE { ?a :p ?b }");
        made(6 + 5 + 2 + (2 + 3), "SELECT ?a (SUM(?b) AS ?n) WHERE { ?a :p ?b } GROUP BY ?a");
        made(6 + 5 + 2 + (2 + 9), "SELECT ?a (SUM(?b + 1) AS ?n) WHERE { ?a :p ?b } GROUP BY ?a");
        made(6 + 5 + 2 + (2 + 3) + (4 + 2), "SELECT ?a (SUM(?b) AS ?n) WHERE { ?a :p ?b } GROUP BY ?a HAVING (COUNT(*) > 0)");
        made(6 + 5 + 2 + (1 + 2) + (4 + 2), "SELECT ?a (SUM(?b) AS ?n) WHERE { ?a :p ?b } GROUP BY ?a HAVING (COUNT(*) > 1)");
        made(6 + 2 + 1 + 1, "SELECT (SUM(?b) AS ?n) WHERE { ?a :none ?b }");
    }

    private static void valuesNotNeeded() {
        about("7: of an expression all that stands in it (also what IF, COALESCE, ||, && do not need)");
        made(1 + 1 + 4, "ASK { FILTER (1 || 2 || 3) }");
        made(1 + 1 + 3, "ASK { FILTER (0 && 1) }");
        made(1 + 1 + 8, "ASK { FILTER (IF(1, 1 + 1, 1 + 1)) }");
        made(1 + 1 + 4, "ASK { FILTER (COALESCE(1, 2, 3)) }");
        made(1 + 1 + 4, "ASK { FILTER (1 IN (1, 2)) }");
        made(1 + 1 + 3 + 1, "ASK { FILTER (1 || EXISTS { }) }");
        made(1 + 1 + 5, "ASK { FILTER (?a + ?b + ?c) }");
        made(1 + 2 + 1 + 1, "ASK { FILTER (0) FILTER (1) }");
    }

    private static void minusMakesNone() {
        facts("7: MINUS, FILTER, BIND make no rows");
        made(1 + 2 + 3 + (1 + 1 + 1), "ASK { ?a :p ?b MINUS { ?a :q ?c } }");
        made(1 + 2 + 3 + 3, "ASK { ?a :p ?b BIND (1 AS ?c) }");
        made(1 + 2 + 3 + 3, "ASK { ?a :p ?b FILTER (1) }");
    }
}
