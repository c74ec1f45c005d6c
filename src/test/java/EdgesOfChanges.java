/** Parts 2 and 9, WHAT HOLDS and CHANGES: each edge that they name. */
public final class EdgesOfChanges extends Check {
    public static void main(String[] args) {
        insertData();
        deleteData();
        insertWhere();
        deleteWhere();
        deleteInsert();
        leftOut();
        rule();
        sameRuleTwice();
        unrule();
        clear();
        answerOfSelect();
        construct();
        follows();
        followsRound();
        followsNoTriples();
        followsOfManyPatterns();
        followsOfTerms();
        followsOfOneVariable();
        goesAgain();
        numbers();
        numbersInTheOrder();
        numbersOfRules();
        numbersOfWhere();
        noNumbers();
        unnumberedTerms();
        finish();
    }

    // 9.

    private static void insertData() {
        about("9: INSERT DATA: the triples are said; how many are newly said");
        answers(1, "INSERT DATA { :a :p 1 }");
        answers(0, "INSERT DATA { :a :p 1 }");
        answers(1, "INSERT DATA { :a :p 1 , 2 , 2 . :a :p 2 }");
        answers(2, "INSERT DATA { :a :p 1.0 , \"1\" , 1 , 01 }");
        due("state", "4 4 6 0", state());
    }

    private static void deleteData() {
        about("9: DELETE DATA: the triples are said no more; how many had been said");
        answers(2, "INSERT DATA { :a :p 1 , 2 }");
        answers(0, "DELETE DATA { :a :p 3 }");
        answers(0, "DELETE DATA { :b :q 1 . :p :a 1 }");
        answers(1, "DELETE DATA { :a :p 1 , 1 . <a> <p> 01 }");
        answers(0, "DELETE DATA { :a :p 1 }");
        answers(1, "DELETE DATA { :a :p 2 . :a :p 1.0 }");
        due("state", "0 0 4 0", state());
        answers(0, "DELETE DATA { :a :p 2 }");
    }

    private static void insertWhere() {
        about("9: INSERT .. WHERE: of all rows of the group");
        answers(2, "INSERT DATA { :a :p 1 , 2 }");
        answers(2, "INSERT { ?x :q ?y } WHERE { ?x :p ?y }");
        answers(0, "INSERT { ?x :q ?y } WHERE { ?x :p ?y }");
        answers(0, "INSERT { ?x :q ?y } WHERE { ?x :none ?y }");
        answers(1, "INSERT { :x :y :z } WHERE { ?x :p ?y }");
        answers(0, "INSERT { :x :y :w } WHERE { ?x :none ?y }");
        answers(1, "INSERT { :x :y :w } WHERE { }");
        answers(2, "INSERT { ?x :r ?z } WHERE { ?x :p ?y BIND (?y + 10 AS ?z) }");
        answers(2, "INSERT { ?x ?z 0 } WHERE { VALUES ?z { :s :t } ?x :p 1 }");
        answers(1, "INSERT { ?n :u 1 } WHERE { SELECT (COUNT(*) AS ?k) (:z AS ?n) WHERE { ?x :p ?y } }");
        due("said", "11 11", store().triples() + " " + store().said());
    }

    private static void deleteWhere() {
        about("9: DELETE .. WHERE: of all rows of the group the triples are said no more");
        answers(4, "INSERT DATA { :a :p 1 , 2 . :b :p 1 . :a :q :b }");
        answers(0, "DELETE { ?x :none ?y } WHERE { ?x :p ?y }");
        answers(2, "DELETE { ?x :p 1 } WHERE { ?x :p ?y }");
        answers(1, "DELETE { ?x :p ?y } WHERE { ?x :p ?y . ?x :q ?z }");
        answers(0, "DELETE { ?x ?y ?z } WHERE { }");
        answers(1, "DELETE { ?x ?y ?z } WHERE { ?x ?y ?z }");
        due("state", "0 0 6 0", state());
    }

    private static void deleteInsert() {
        about("9: those said no more, and newly said behind that, together (one may be both)");
        answers(3, "INSERT DATA { :a :p 1 , 2 , 3 }");
        answers(6, "DELETE { ?x :p ?y } INSERT { ?x :p ?y } WHERE { ?x :p ?y }");
        due("all is as it was", "3 3", store().triples() + " " + store().said());
        answers(2, "DELETE { :a :p 1 } INSERT { :a :p 4 } WHERE { }");
        answers(1, "DELETE { :a :p 9 } INSERT { :a :p 5 } WHERE { }");
        answers(1, "DELETE { :a :p 5 } INSERT { :a :p 4 } WHERE { }");
        answers(0, "DELETE { :a :p 5 } INSERT { :a :p 4 } WHERE { }");
        answers(2, "DELETE { ?x :p ?y } INSERT { ?x :q ?y } WHERE { ?x :p ?y FILTER (?y = 2) }");
        answers(3, "DELETE { ?x ?p ?y } INSERT { ?x :r 1 } WHERE { ?x ?p ?y FILTER (?y < 4) }");
        gives("<p> 4 / <r> 1", "SELECT ?p ?y WHERE { ?x ?p ?y }");
    }

    private static void leftOut() {
        about("9: those that a row does not give whole, or that are no triples, are left out");
        answers(3, "INSERT DATA { :a :p 1 . :b :p \"t\" . :c :p _:d }");
        answers(1, "INSERT { ?y :q ?x } WHERE { ?x :p ?y }");
        answers(3, "INSERT { ?x ?y 0 . ?x :r 0 } WHERE { ?x :p ?y }");
        answers(0, "INSERT { ?x :s ?z . ?z :s ?x . ?x ?z ?x } WHERE { ?x :p ?y }");
        answers(1, "INSERT { ?x :s ?z } WHERE { ?x :p ?y BIND (?y + 1 AS ?z) }");
        answers(0, "DELETE { ?y :p ?x . ?x ?y ?x . ?x :p ?z } WHERE { ?x :p ?y }");
        answers(2, "INSERT { ?x ?x ?x } WHERE { VALUES ?x { 1 :n \"t\" _:b true 1.5 :m } }");
        answers(1, "INSERT { _:k ?x 1 } WHERE { VALUES ?x { _:b <k> } }");
        due("said", "11 11", store().triples() + " " + store().said());
    }

    private static void rule() {
        about("9: RULE: a rule more, with the next number (from 0)");
        answers(2, "INSERT DATA { :a :p :b . :b :p :c }");
        answers(0, "RULE { ?x :p ?y } => { ?y :q ?x }");
        due("it is done at once", "4 2", store().triples() + " " + store().said());
        answers(1, "RULE { ?x :q ?y } => { ?x :r :k }");
        due("on what follows, too", "6 2", store().triples() + " " + store().said());
        due("rules", 2, store().rules());
    }

    private static void sameRuleTwice() {
        about("9: also when there is the same one");
        answers(0, "RULE { ?x :p ?y } => { ?y :q ?x }");
        answers(1, "RULE { ?x :p ?y } => { ?y :q ?x }");
        answers(1, "INSERT DATA { :a :p :b }");
        due("state", "2 1 4 2", state());
        answers(1, "UNRULE 0");
        due("the other one is left", "2 1 4 1", state());
        answers(0, "UNRULE 0");
        due("none", "1 1 4 0", state());
    }

    private static void unrule() {
        about("9: UNRULE: it goes, those behind it are one less; how many are left");
        answers(0, "RULE { ?x :p ?y } => { ?y :q0 ?x }");
        answers(1, "RULE { ?x :q0 ?y } => { ?y :q1 ?x }");
        answers(2, "RULE { ?x :q1 ?y } => { ?y :q2 ?x }");
        answers(1, "INSERT DATA { :a :p :b }");
        due("all follow", 4, store().triples());
        answers(2, "UNRULE 1");
        due("what rested on it went", 2, store().triples());
        answers(1, "INSERT DATA { :a :q1 :b }");
        due("the last one is there", 4, store().triples());
        answers(1, "UNRULE 1");
        due("and has the number 1 now", 3, store().triples());
        fails(7, 0, "UNRULE 1");
        answers(0, "UNRULE 0");
        due("said alone", "2 2", store().triples() + " " + store().said());
    }

    private static void clear() {
        about("9: CLEAR: nothing is said any more (rules, numbers stay)");
        answers(0, "CLEAR");
        answers(0, "RULE { ?x :p ?y } => { ?y :q ?x }");
        answers(2, "INSERT DATA { :a :p :b , :c }");
        due("state", "4 2 5 1", state());
        answers(2, "CLEAR");
        due("state", "0 0 5 1", state());
        answers(0, "CLEAR");
        due("no triple", "-1 0", store().find(0, 0, 0) + " " + store().count(0, 1, 3, 0, 0));
        answers(1, "INSERT DATA { :a :p :b }");
        due("the rule goes on", "2 1 5 1", state());
    }

    private static void answerOfSelect() {
        about("9: of SELECT how many rows the result has; of ASK 1 if the group gives any, else 0");
        answers(3, "INSERT DATA { :a :p 1 , 2 , 3 }");
        answers(3, "SELECT * WHERE { ?x :p ?y }");
        answers(1, "SELECT DISTINCT ?x WHERE { ?x :p ?y }");
        answers(2, "SELECT * WHERE { ?x :p ?y } LIMIT 2");
        answers(0, "SELECT * WHERE { ?x :p ?y } LIMIT 0");
        answers(1, "ASK { ?x :p ?y }");
        answers(0, "ASK { ?x :none ?y }");
        answers(0, "ASK { SELECT * WHERE { ?x :p ?y } LIMIT 0 }");
        answers(1, "ASK { SELECT (COUNT(*) AS ?n) WHERE { ?x :none ?y } }");
    }

    private static void construct() {
        about("9: of CONSTRUCT how many triples (each once), which are the result's rows, in THE ORDER");
        answers(4, "INSERT DATA { :b :p 10 , 9 , \"t\" . _:a :p :b }");
        gives("_:a <p> <b> / <b> <p> 9 / <b> <p> 10 / <b> <p> \"t\"", "CONSTRUCT { ?x :p ?y } WHERE { ?x :p ?y }");
        gives("_:a <k> 1 / <b> <k> 1", "CONSTRUCT { ?x :k 1 . ?x :k 01 } WHERE { ?x :p ?y }");
        gives("<b> <z> _:a", "CONSTRUCT { ?y :z ?x } WHERE { ?x :p ?y }");
        gives("", "CONSTRUCT { ?x ?y ?z } WHERE { ?x :p ?y }");
        gives("", "CONSTRUCT { ?x :p ?y } WHERE { ?x :none ?y }");
        due("three columns", "3 s p o", store().columns() + " " + written(store().column(0)) + " " + written(store().column(1))
            + " " + written(store().column(2)));
        gives("<x> <y> 1 / <x> <y> 2", "CONSTRUCT { :x :y 2 , 1 } WHERE { }");
        gives("<x> <y> 1 / <x> <y> 1.0", "CONSTRUCT { :x :y 1.0 , 1 } WHERE { }");
        gives("1 / 2", "SELECT ?x WHERE { VALUES ?x { 2 1 } } ORDER BY DESC(1)");
        gives("<a> <k> 1 / <b> <k> 2", "CONSTRUCT { ?x :k ?y } WHERE { SELECT ?x ?y WHERE { VALUES (?x ?y) { (:a 1) (:b 2) } } ORDER BY DESC(?x) }");
        gives("<a> <k> 1 / <b> <k> 2", "CONSTRUCT { ?x :k ?y } WHERE { VALUES (?x ?y) { (:b 2) (:a 1) } { SELECT * WHERE { } ORDER BY DESC(1) } }");
        due("nothing is said by it", "4 4", store().triples() + " " + store().said());
    }

    // 2.

    private static void follows() {
        about("2: what holds is the least set that has all that are said, and each rule's head");
        answers(0, "RULE { ?x :p ?y . ?y :p ?z } => { ?x :p ?z }");
        answers(3, "INSERT DATA { :a :p :b . :b :p :c . :c :p :d }");
        due("six", "6 3", store().triples() + " " + store().said());
        answers(1, "INSERT DATA { :d :p :a }");
        due("all", "16 4", store().triples() + " " + store().said());
        answers(1, "DELETE DATA { :d :p :a }");
        due("six again", "6 3", store().triples() + " " + store().said());
        answers(0, "DELETE DATA { :a :p :c }");
        due("what follows is not said", "6 3", store().triples() + " " + store().said());
        answers(1, "INSERT DATA { :a :p :c }");
        answers(1, "DELETE DATA { :b :p :c }");
        due("a c, a d, a b, c d", "4 3", store().triples() + " " + store().said());
    }

    private static void followsRound() {
        about("2: what follows from itself alone does not hold");
        answers(0, "RULE { ?x :p ?y } => { ?x :q ?y }");
        answers(1, "RULE { ?x :q ?y } => { ?x :p ?y }");
        answers(1, "INSERT DATA { :a :p 1 }");
        due("both", "2 1", store().triples() + " " + store().said());
        answers(1, "INSERT DATA { :a :q 1 }");
        answers(1, "DELETE DATA { :a :p 1 }");
        due("from the other one", "2 1", store().triples() + " " + store().said());
        answers(1, "DELETE DATA { :a :q 1 }");
        due("none", "0 0", store().triples() + " " + store().said());
        answers(2, "RULE { :a :r :a } => { :a :r :a }");
        due("nothing of nothing", 0, store().triples());
    }

    private static void followsNoTriples() {
        about("2: as far as they are triples");
        answers(0, "RULE { ?x :p ?y } => { ?y :q ?x . ?x ?y ?x . ?x :r ?y }");
        answers(1, "INSERT DATA { :a :p 1 }");
        due("the third one", "2 1", store().triples() + " " + store().said());
        answers(1, "INSERT DATA { :a :p _:b }");
        due("the first and third one", "5 2", store().triples() + " " + store().said());
        answers(1, "INSERT DATA { :a :p :b }");
        due("all", "9 3", store().triples() + " " + store().said());
        answers(3, "DELETE { :a :p ?x } WHERE { :a :p ?x }");
        due("none", "0 0", store().triples() + " " + store().said());
    }

    private static void followsOfManyPatterns() {
        about("2: a body of four patterns, a head of three");
        answers(0, "RULE { ?a :p ?b . ?b :p ?c . ?c :q ?d . :k :on :k } => { ?a :r ?d . ?d :s ?a . ?b :t ?c }");
        answers(4, "INSERT DATA { :a :p :b . :b :p :c . :c :q :d , :e }");
        due("not yet", "4 4", store().triples() + " " + store().said());
        answers(1, "INSERT DATA { :k :on :k }");
        due("a r d, a r e, d s a, e s a, b t c", "10 5", store().triples() + " " + store().said());
        answers(1, "DELETE DATA { :c :q :e }");
        due("without e", "7 4", store().triples() + " " + store().said());
        answers(1, "DELETE DATA { :k :on :k }");
        due("none", "3 3", store().triples() + " " + store().said());
    }

    private static void followsOfTerms() {
        about("2: a rule without variables, and with terms of all kinds");
        answers(0, "RULE { :a :p \"t\"@en } => { :b :q 1.5 . :b :q \"t\"^^<n> . :b a true }");
        answers(1, "INSERT DATA { :a :p \"t\" }");
        due("another term", 1, store().triples());
        answers(1, "INSERT DATA { :a :p \"t\"@EN }");
        due("now", 5, store().triples());
        gives("1.5 / \"t\"^^<n> / true", "SELECT ?x WHERE { :b ?y ?x }");
        answers(1, "RULE { :b ?x 1.5 } => { ?x ?x ?x }");
        due("q q q", 6, store().triples());
        answers(2, "RULE { ?x ?y 2 } => { :never :is :so }");
        due("nothing", 6, store().triples());
    }

    private static void followsOfOneVariable() {
        about("2: a variable in several places is one term");
        answers(0, "RULE { ?x ?x ?y } => { ?y :k ?x }");
        answers(1, "RULE { ?x :p ?x } => { ?x :self ?x }");
        answers(4, "INSERT DATA { :a :a :b . :a :b :a . :c :p :d . :d :p :d }");
        due("b k a, d self d", "6 4", store().triples() + " " + store().said());
        answers(2, "RULE { ?x ?y ?x } => { ?x :loop ?y }");
        due("a loop b, d loop p, d loop self", 9, store().triples());
    }

    private static void goesAgain() {
        about("2: what is said and follows stays until neither is so");
        answers(0, "RULE { ?x :p ?y } => { ?x :q ?y }");
        answers(2, "INSERT DATA { :a :p 1 . :a :q 1 }");
        due("both said", "2 2 1", store().triples() + " " + store().said() + " " + store().find(2, 1, 3));
        answers(1, "DELETE DATA { :a :q 1 }");
        due("one follows", "2 1 0", store().triples() + " " + store().said() + " " + store().find(2, 1, 3));
        answers(1, "INSERT DATA { :a :q 1 }");
        answers(1, "DELETE DATA { :a :p 1 }");
        due("one is said", "1 1 1", store().triples() + " " + store().said() + " " + store().find(0, 0, 3));
        answers(0, "UNRULE 0");
        answers(1, "INSERT DATA { :a :p 1 }");
        due("two", "2 2", store().triples() + " " + store().said());
    }

    private static String allTerms() {
        StringBuilder out = new StringBuilder();
        int many = store().terms();
        for (int i = 1; i <= many; i++) {
            out.append(i > 1 ? " " : "").append(written(store().term(i)));
        }
        return out.toString();
    }

    private static void numbers() {
        about("2: a term has a number once it stands in a triple that was said; it keeps it");
        answers(1, "INSERT DATA { :m :p 5 }");
        due("three", "<m> <p> 5", allTerms());
        answers(1, "INSERT DATA { :a :p 4 }");
        due("those that a statement brings come behind", "<m> <p> 5 <a> 4", allTerms());
        answers(1, "DELETE DATA { :m :p 5 }");
        answers(1, "INSERT DATA { :b :p 5 }");
        due("5 kept its number", "<m> <p> 5 <a> 4 <b>", allTerms());
        due("find", "6 2 3", store().find(4, 0, 0) + " " + store().find(4, 0, 1) + " " + store().find(4, 0, 2));
    }

    private static void numbersInTheOrder() {
        about("2: those that a statement brings get theirs in THE ORDER");
        answers(9, "INSERT DATA { :z :y true , \"b\" , \"a\"@x , 2 , 1.5 , 2.0 , _:c , :z , \"a\"^^<n> }");
        due("all kinds", "_:c <y> <z> 1.5 2 2.0 \"b\" \"a\"@x \"a\"^^<n> true", allTerms());
        answers(2, "INSERT { ?x :y ?n . ?x :w 1 } WHERE { BIND (:z AS ?x) BIND (0.5 + 0.5 AS ?n) }");
        due("of WHERE too", "<w> 1 1.0", allTerms().substring(allTerms().indexOf("<w>")));
    }

    private static void numbersOfRules() {
        about("2: or in a rule");
        answers(0, "RULE { ?x :z 5 . ?x a :b } => { ?x :a 4 }");
        due("body and head together", "<a> <b> <type> <z> 4 5", allTerms());
        answers(0, "UNRULE 0");
        due("they keep them", 6, store().terms());
        failsAt(4, "RULE { ?x :new ?y } => { ?x @@?z ?y }");
        due("not with a fault", 6, store().terms());
    }

    private static void numbersOfWhere() {
        about("2: only those in triples that were said get one");
        answers(1, "INSERT { :a :p ?x } WHERE { VALUES (?x ?y) { (1 2) } BIND (3 AS ?z) }");
        due("three", "<a> <p> 1", allTerms());
        answers(0, "INSERT { ?k :q 2 } WHERE { }");
        answers(0, "INSERT { :a :p ?x } WHERE { VALUES ?x { 1 } FILTER (?x != 9) }");
        due("still", "<a> <p> 1", allTerms());
        answers(1, "INSERT { ?x :r ?y . ?y :r ?x } WHERE { VALUES (?x ?y) { (:b 7) } }");
        due("of the one that is a triple", "<a> <p> 1 <b> <r> 7", allTerms());
    }

    private static void noNumbers() {
        about("2: no number for what is asked or taken away");
        answers(0, "DELETE DATA { :a :p 1 }");
        answers(0, "ASK { :b :q 2 }");
        answers(1, "SELECT * WHERE { VALUES ?x { 7 } }");
        answers(1, "CONSTRUCT { :a :b :c } WHERE { }");
        answers(0, "DELETE { :d :e :f } WHERE { }");
        answers(0, "INSERT { :d :e :f } WHERE { ?x :p ?y }");
        failsAt(2, "INSERT DATA { :a :b :c@@");
        due("none", "0 0 0 0", state());
        answers(1, "DELETE { :d :e :f } INSERT { :g :h :i } WHERE { }");
        due("of the second facts alone", "<g> <h> <i>", allTerms());
    }

    private static void unnumberedTerms() {
        about("terms without numbers are as good as others");
        answers(1, "INSERT DATA { :a :p 1 }");
        gives("1 2 3.5", "SELECT ?x ?y ?z WHERE { :a :p ?x BIND (?x + 1 AS ?y) BIND (?y + 1.5 AS ?z) }");
        gives("1", "SELECT ?x WHERE { VALUES ?y { 0 } :a :p ?x FILTER (?x = ?y + 1) }");
        gives("1", "SELECT ?x WHERE { BIND (0 + 1 AS ?x) :a :p ?x }");
        gives("5 2", "SELECT ?x (COUNT(*) AS ?n) WHERE { VALUES ?y { 2 3 } BIND (?y - ?y + 5 AS ?x) } GROUP BY ?x");
        due("no more have numbers", 3, store().terms());
    }
}
