/** Parts 5 and 6, WHAT GROUPS GIVE and WHAT A SELECT GIVES: each edge that they name. */
public final class EdgesOfGroups extends Check {
    private static final String FACTS = "INSERT DATA { :x :p :y , :z ; :v 3 . :y :p :z ; :v 1.5 . :z :v \"ab\" . :z :p :z }";

    public static void main(String[] args) {
        emptyGroups();
        blocks();
        variableTwice();
        filters();
        optional();
        optionalFilters();
        optionalSelect();
        minus();
        unions();
        values();
        binds();
        bindsInExists();
        selectsWithin();
        exists();
        existsSeesTheRow();
        pathNames();
        pathRows();
        pathChoices();
        pathMaybe();
        pathAny();
        pathSome();
        pathOthers();
        pathEnds();
        pathStrangers();
        pathOneVariable();
        items();
        sets();
        having();
        sorted();
        sortedByColumns();
        columns();
        distinct();
        limitOffset();
        counts();
        sums();
        sumsTooLarge();
        averages();
        extremes();
        groupConcat();
        groupConcatTooLong();
        aggregatesBesideSelects();
        aggregatesOfNone();
        finish();
    }

    private static void facts(String sentence) {
        about(sentence);
        answers(7, FACTS);
    }

    // 5.

    private static void emptyGroups() {
        about("5: a group is done from the bag of the empty row alone");
        answers(1, "ASK { }");
        answers(1, "SELECT * WHERE { }");
        answers(0, "ASK { ?a ?b ?c }");
        answers(1, "ASK { { } { } }");
        answers(1, "ASK { OPTIONAL { ?a ?b ?c } }");
        answers(1, "ASK { MINUS { } }");
        answers(0, "ASK { FILTER (0) }");
        gives("-", "SELECT ?a WHERE { }");
    }

    private static void blocks() {
        facts("5: BLOCK: each row with each triple that holds and fits the pattern, joined");
        gives("<x> <y> <z> / <x> <z> <z> / <y> <z> <z> / <z> <z> <z>", "SELECT * WHERE { ?a :p ?b . ?b :p ?c }");
        gives("", "SELECT * WHERE { ?a :p ?b . ?b :none ?c }");
        gives("<x>", "SELECT * WHERE { ?a :p :y }");
        gives("", "SELECT * WHERE { ?a :p 5 }");
        answers(1, "ASK { :x :p :y . :y :p :z }");
        answers(0, "ASK { :x :p :y . :y :p :y }");
        gives("<p> / <v>", "SELECT DISTINCT ?b WHERE { ?a ?b ?c }");
        gives("3 <y> / 3 <z>", "SELECT ?n ?b WHERE { VALUES ?n { 3 4 } ?a :v ?n . ?a :p ?b }");
        answers(0, "RULE { ?a :p ?b } => { ?b :q ?a }");
        gives("<y> <x> / <z> <x> / <z> <y> / <z> <z>", "SELECT * WHERE { ?a :q ?b }");
    }

    private static void variableTwice() {
        about("5: a variable that stands twice is one term");
        answers(5, "INSERT DATA { :a :a :a , :b . :b :a :b . :a :b :a . :b :b :a }");
        gives("<a> / <b>", "SELECT ?x WHERE { ?x :a ?x }");
        gives("<a> <a> / <a> <b> / <b> <a>", "SELECT * WHERE { ?x ?y ?x }");
        gives("<a> <a> / <a> <b> / <b> <a>", "SELECT * WHERE { ?x ?x ?y }");
        gives("<a> <a>", "SELECT * WHERE { ?y ?x ?x }");
        gives("<a>", "SELECT * WHERE { ?x ?x ?x }");
    }

    private static void filters() {
        facts("5: the FILTERs of the group itself, all of them, keep the rows for which they are TRUE");
        gives("<x>", "SELECT ?a WHERE { FILTER (?n > 2) ?a :v ?n }");
        gives("<x>", "SELECT ?a WHERE { FILTER (?n > 1) ?a :v ?n FILTER (?n != 1.5) }");
        gives("", "SELECT ?a WHERE { ?a :v ?n FILTER (?n > 1) FILTER (?n < 1) }");
        gives("<x> / <y>", "SELECT ?a WHERE { ?a :v ?n FILTER (?n + 1) }");
        gives("<x> / <y> / <z>", "SELECT ?a WHERE { ?a :v ?n FILTER (?n) }");
        gives("", "SELECT ?a WHERE { ?a :v ?n FILTER (?a) }");
        gives("", "SELECT ?a WHERE { ?a :v ?n { FILTER (?n > 2) } }");
        gives("<x> / <y> / <z>", "SELECT ?a WHERE { ?a :v ?n { FILTER (1) } }");
    }

    private static void optional() {
        facts("5: OPTIONAL: each row with each one that fits; a row with which there is none such stays as it is");
        gives("3 <y> / 3 <z> / 1.5 <z> / \"ab\" <z>", "SELECT ?n ?b WHERE { ?a :v ?n OPTIONAL { ?a :p ?b } } ORDER BY DESC(ISNUMERIC(?n)) DESC(?n) ?b");
        gives("- 1.5 / - 3 / - \"ab\"", "SELECT ?b ?n WHERE { ?a :v ?n OPTIONAL { ?a :none ?b } }");
        gives("<x> / <y> / <z>", "SELECT ?a WHERE { ?a :v ?n OPTIONAL { } }");
        gives("", "SELECT ?a WHERE { ?a :none ?n OPTIONAL { ?a :p ?b } }");
        gives("<x>", "SELECT ?a WHERE { OPTIONAL { ?a :p :y } }");
        gives("5 <x>", "SELECT ?n ?a WHERE { VALUES ?n { 5 } OPTIONAL { ?a :p :y } }");
        gives("<x> 3 / <y> 1.5 / <z> \"ab\"", "SELECT * WHERE { OPTIONAL { ?a :v ?n } OPTIONAL { ?a :v ?n } }");
        gives("<x> <x> / <x> <y>", "SELECT * WHERE { VALUES (?a ?b) { (UNDEF :x) (:x :y) } OPTIONAL { ?a :p :y } }");
    }

    private static void optionalFilters() {
        facts("5: OPTIONAL: joined, for which all FILTERs of g are TRUE");
        gives("<x> <y> / <x> <z> / <y> - / <z> -", "SELECT ?a ?b WHERE { ?a :v ?n OPTIONAL { ?a :p ?b FILTER (?n > 2) } }");
        gives("<x> <y> / <y> - / <z> -", "SELECT ?a ?b WHERE { ?a :v ?n OPTIONAL { ?a :p ?b FILTER (?n > 2) FILTER (?b = :y) } }");
        gives("<x> - / <y> - / <z> -", "SELECT ?a ?b WHERE { ?a :v ?n OPTIONAL { ?a :p ?b FILTER (?none) } }");
        gives("<x> - / <y> - / <z> -", "SELECT ?a ?b WHERE { ?a :v ?n OPTIONAL { { ?a :p ?b FILTER (?n > 2) } } }");
        gives("<x> <y> / <x> <z> / <y> <z> / <z> -", "SELECT ?a ?b WHERE { ?a :v ?n OPTIONAL { ?a :p ?b FILTER NOT EXISTS { ?a :p ?a } } }");
    }

    private static void optionalSelect() {
        facts("5: an OPTIONAL SELECT has no FILTERs");
        gives("<x> <y> / <y> - / <z> -",
            "SELECT ?a ?b WHERE { ?a :v ?n OPTIONAL { SELECT * WHERE { ?a :p ?b FILTER (?b = :y) } } }");
        gives("<x> - / <y> - / <z> -", "SELECT ?a ?b WHERE { ?a :v ?n OPTIONAL { SELECT * WHERE { ?a :p ?b FILTER (?n > 2) } } }");
        gives("<x> 4 / <y> 4 / <z> 4", "SELECT ?a ?c WHERE { ?a :v ?n OPTIONAL { SELECT (COUNT(*) AS ?c) WHERE { ?x :p ?y } } }");
    }

    private static void minus() {
        facts("5: MINUS g: a row goes if one of the bag of g fits it and there is a variable to which both give a term");
        gives("<y>", "SELECT ?a WHERE { ?a :v ?n MINUS { ?a :p ?a } MINUS { ?a :p :y } }");
        gives("<x> / <y> / <z>", "SELECT ?a WHERE { ?a :v ?n MINUS { ?c :p :z } }");
        gives("<x> / <y> / <z>", "SELECT ?a WHERE { ?a :v ?n MINUS { } }");
        gives("<x> / <y> / <z>", "SELECT ?a WHERE { ?a :v ?n MINUS { :x :p :y } }");
        gives("<x> / <y> / <z>", "SELECT ?a WHERE { ?a :v ?n MINUS { VALUES ?a { UNDEF } } }");
        gives("<y> / <z>", "SELECT ?a WHERE { ?a :v ?n MINUS { VALUES (?a ?n) { (:x UNDEF) (:y 3) } } }");
        gives("<x> / <y> / <z>", "SELECT ?a WHERE { ?a :v ?n MINUS { ?a :v ?m FILTER (?n = ?m) } }");
        gives("", "SELECT ?a WHERE { ?a :none ?n MINUS { ?a :p ?b } }");
        gives("-", "SELECT ?a WHERE { MINUS { ?a :p ?b } }");
        gives("<x> / <y> / <z>", "SELECT ?a WHERE { ?a :v ?n OPTIONAL { ?a :none ?k } MINUS { VALUES ?k { 1 } } }");
    }

    private static void unions() {
        facts("5: UNION: the bag is joined with all that is in the bags of g, h, .. (also of one g alone)");
        gives("1 / 1", "SELECT ?n WHERE { { VALUES ?n { 1 } } UNION { VALUES ?n { 1 } } }");
        gives("<y> / <z> / <z> / <z>", "SELECT ?b WHERE { { ?a :p ?b } }");
        gives("<x> <y> / <x> <z>", "SELECT ?a ?b WHERE { VALUES ?a { :x } { ?a :p ?b } }");
        gives("- / 1 / 2", "SELECT ?n WHERE { { } UNION { VALUES ?n { 1 2 } } }");
        gives("", "SELECT ?n WHERE { { FILTER (0) } UNION { FILTER (0) } }");
        gives("1 1 / 1 2 / 2 1 / 2 2", "SELECT ?n ?m WHERE { { VALUES ?n { 1 2 } } { VALUES ?m { 1 2 } } }");
        gives("2", "SELECT ?n WHERE { VALUES ?n { 1 2 } { VALUES ?n { 2 3 } } UNION { VALUES ?n { 4 } } }");
    }

    private static void values() {
        about("5: VALUES: with the rows given (UNDEF gives nothing)");
        gives("", "SELECT ?a WHERE { VALUES ?a { } }");
        gives("- / 1", "SELECT ?a WHERE { VALUES ?a { 1 UNDEF } }");
        gives("1 / 1", "SELECT ?a WHERE { VALUES ?a { 1 1 } }");
        gives("1 2 / 1 3", "SELECT ?a ?b WHERE { VALUES (?a ?b) { (1 2) (UNDEF 3) } VALUES ?a { 1 } }");
        gives("1 -", "SELECT ?a ?b WHERE { VALUES (?a ?b) { (1 UNDEF) } }");
        gives("", "SELECT ?a WHERE { VALUES ?a { 1 } VALUES ?a { 1.0 } }");
        gives("2 1", "SELECT ?a ?b WHERE { VALUES (?b ?a) { (1 2) } }");
    }

    private static void binds() {
        facts("5: BIND: each row gets the expression's value for the variable; nothing for an ERROR");
        gives("<x> 4 / <y> 2.5 / <z> -", "SELECT ?a ?m WHERE { ?a :v ?n BIND (?n + 1 AS ?m) }");
        gives("-", "SELECT ?m WHERE { BIND (?m AS ?m) }");
        gives("", "SELECT ?m WHERE { ?a :none ?b BIND (1 AS ?m) }");
        gives("<x>", "SELECT ?m WHERE { BIND (:x AS ?m) ?m :p :y }");
        gives("", "SELECT ?m WHERE { BIND (:new AS ?m) ?m :p ?b }");
        gives("3", "SELECT ?c WHERE { BIND (1 AS ?a) BIND (?a + 1 AS ?b) BIND (?b + 1 AS ?c) }");
        gives("<x> 4 / <x> 4", "SELECT ?a ?m WHERE { ?a :v ?n BIND (?n + 1 AS ?m) ?a :p ?b FILTER (BOUND(?m) && ?a = :x) }");
    }

    private static void bindsInExists() {
        about("5: a row to which BIND's variable is given already, in EXISTS, stays as it is; the expression is worked out all the same");
        answers(1, "ASK { VALUES ?a { 1 } FILTER EXISTS { BIND (2 AS ?a) FILTER (?a = 1) } }");
        answers(0, "ASK { VALUES ?a { 1 } FILTER EXISTS { BIND (2 AS ?a) FILTER (?a = 2) } }");
        answers(1, "ASK { VALUES ?a { UNDEF } FILTER EXISTS { BIND (2 AS ?a) FILTER (?a = 2) } }");
        made(1 + 1 + 1 + 1 + 1 + 1 + 1 + 1 + 3, "ASK { VALUES ?a { 1 } FILTER EXISTS { BIND (2 + 3 AS ?a) } }");
        answers(0, "ASK { VALUES ?a { 1 } FILTER EXISTS { { BIND (2 AS ?a) } } }");
        answers(1, "ASK { VALUES ?a { 1 } FILTER EXISTS { OPTIONAL { BIND (2 AS ?a) } } }");
        answers(0, "ASK { VALUES ?a { 1 } FILTER EXISTS { SELECT (2 AS ?a) WHERE { } } }");
        answers(1, "ASK { VALUES ?a { 1 } FILTER EXISTS { SELECT (1 AS ?a) WHERE { } } }");
    }

    private static void selectsWithin() {
        facts("5: a SELECT that is a group by itself, done from a bag: the bag joined with its rows");
        gives("<x> <y> 3 / <x> <z> 3 / <y> <z> 1.5 / <z> <z> \"ab\"", "SELECT * WHERE { ?a :p ?b { SELECT ?a ?n WHERE { ?a :v ?n } } }");
        gives("<x> <y> / <x> <z> / <y> <z> / <z> <z>", "SELECT * WHERE { ?a :p ?b { SELECT ?a WHERE { ?a :v ?b } } }");
        gives("<x> <y> / <x> <z>", "SELECT * WHERE { ?a :p ?b { SELECT ?a WHERE { ?a :v ?b } LIMIT 1 } }");
        gives("", "SELECT * WHERE { ?a :p ?b { SELECT ?a WHERE { ?a :v ?n } LIMIT 0 } }");
        gives("1", "SELECT * WHERE { SELECT (1 AS ?a) WHERE { } }");
        gives("<x> 2 / <y> 1 / <z> 1", "SELECT ?a ?k WHERE { ?a :v ?n { SELECT ?a (COUNT(*) AS ?k) WHERE { ?a :p ?b } GROUP BY ?a } }");
        gives("<z>", "SELECT DISTINCT ?b WHERE { ?a :p ?b FILTER EXISTS { SELECT ?b WHERE { ?b :p ?b } } }");
        gives("<x> <y>", "SELECT * WHERE { ?a :p ?b { SELECT ?a ?b WHERE { ?a :p ?b } ORDER BY DESC(?n) ?b LIMIT 1 } }");
    }

    private static void exists() {
        facts("5: EXISTS g, for a row: whether g, done from the bag of that row alone, gives any");
        answers(1, "ASK { FILTER EXISTS { } }");
        answers(0, "ASK { FILTER NOT EXISTS { } }");
        answers(0, "ASK { FILTER EXISTS { FILTER (0) } }");
        gives("<x>", "SELECT ?a WHERE { ?a :v ?n FILTER EXISTS { ?a :p :y } }");
        gives("<y> / <z>", "SELECT ?a WHERE { ?a :v ?n FILTER NOT EXISTS { ?a :p :y } }");
        gives("<x> true / <y> false / <z> false", "SELECT ?a (EXISTS { ?a :p :y } AS ?e) WHERE { ?a :v ?n }");
        gives("<z>", "SELECT ?a WHERE { ?a :v ?n FILTER (EXISTS { ?a :p ?a }) }");
    }

    private static void existsSeesTheRow() {
        facts("5: EXISTS: its own FILTERs see the row, those of groups in it do not");
        gives("<x>", "SELECT ?a WHERE { ?a :v ?n FILTER EXISTS { FILTER (?n > 2) } }");
        gives("", "SELECT ?a WHERE { ?a :v ?n FILTER EXISTS { { FILTER (?n > 2) } } }");
        gives("<x> / <y> / <z>", "SELECT ?a WHERE { ?a :v ?n FILTER EXISTS { { } FILTER (BOUND(?n)) } }");
        gives("<x>", "SELECT ?a WHERE { ?a :v ?n FILTER EXISTS { FILTER EXISTS { FILTER (?n > 2) } } }");
        gives("<x> / <y> / <z>", "SELECT ?a WHERE { ?a :v ?n FILTER NOT EXISTS { SELECT * WHERE { FILTER (?n > 2) } } }");
        gives("1 / 2", "SELECT ?k WHERE { VALUES ?k { 1 2 } FILTER EXISTS { VALUES ?k { 1 2 3 } } }");
    }

    // Paths.

    private static final String PATHS = "INSERT DATA { :a :p :b , :c . :b :q :d . :c :q :d . :d :p :a . :a :v 1 }";

    private static void paths(String sentence) {
        about(sentence);
        answers(6, PATHS);
    }

    private static void pathNames() {
        paths("5: NAME: from subject to object of each triple; once. ^ p: backwards");
        gives("<a> <b> / <a> <c> / <d> <a>", "SELECT * WHERE { ?x (:p) ?y }");
        gives("<a> <d> / <b> <a> / <c> <a>", "SELECT * WHERE { ?x ^:p ?y }");
        gives("<a> <b> / <a> <c> / <d> <a>", "SELECT * WHERE { ?x ^(^:p) ?y }");
        gives("", "SELECT * WHERE { ?x ^:none ?y }");
        gives("1 <a>", "SELECT * WHERE { ?x ^:v ?y }");
        gives("<b>", "SELECT * WHERE { :d ^:q ?y FILTER (?y = :b) }");
        gives("<d>", "SELECT * WHERE { ?x :p/^:p ?x FILTER (?x = :d) }");
    }

    private static void pathRows() {
        paths("5: p / q: for all z the times of both multiplied");
        gives("<a> <d> / <a> <d>", "SELECT * WHERE { ?x :p/:q ?y }");
        gives("<d> / <d>", "SELECT ?y WHERE { :a :p/:q ?y }");
        gives("<a> / <a>", "SELECT ?y WHERE { :a :p/:q/:p ?y }");
        gives("<d> / <d> / <d> / <d>", "SELECT ?y WHERE { :a :p/:q/:p/:p/:q ?y }");
        gives("<a> / <a>", "SELECT ?x WHERE { ?x :p/:q :d }");
        gives("<a> / <a>", "SELECT ?y WHERE { :d ^(:p/:q) ?y }");
        gives("", "SELECT ?y WHERE { :a :q/:p ?y }");
    }

    private static void pathChoices() {
        paths("5: p | q: the times of both together");
        gives("<b> / <b> / <c> / <c>", "SELECT ?y WHERE { :a :p|:p ?y }");
        gives("<b> / <c> / 1", "SELECT ?y WHERE { :a :p|:v ?y }");
        gives("<b> / <c> / <d>", "SELECT ?y WHERE { :a :p|^:p ?y }");
        gives("<d> / <d> / <d> / <d>", "SELECT ?y WHERE { :a :p/(:q|:q) ?y }");
        gives("<a> / <a> / <a>", "SELECT ?x WHERE { ?x :p|:p|:p :b }");
    }

    private static void pathMaybe() {
        paths("5: p ?: once if x is y, or p is found");
        gives("<a> / <d>", "SELECT ?y WHERE { :a (:p/:q)? ?y }");
        gives("<a> / <b> / <c>", "SELECT ?y WHERE { :a :p? ?y }");
        gives("<b>", "SELECT ?y WHERE { :b :p? ?y }");
        gives("<a> / <b> / <c> / <d> / 1", "SELECT ?x WHERE { ?x :none? ?x }");
        gives("<b> / <b>", "SELECT ?y WHERE { :b :p?|:p? ?y }");
        gives("<b> / <d>", "SELECT ?y WHERE { :b (:q|:q)? ?y }");
        gives("<a> / <d>", "SELECT ?y WHERE { :d :p? ?y }");
        gives("<a> / <b> / <c> / <d> / <d>", "SELECT ?y WHERE { :a :p?/:q? ?y }");
    }

    private static void pathAny() {
        paths("5: p *: once if x is y, or y is reached by p again and again");
        gives("<a> / <b> / <c>", "SELECT ?y WHERE { :a :p* ?y }");
        gives("<a> / <b> / <c> / <d>", "SELECT ?y WHERE { :a (:p|:q)* ?y }");
        gives("1", "SELECT ?y WHERE { VALUES ?z { 1 } ?z :p* ?y }");
        gives("<a> / <b> / <c> / <d>", "SELECT ?y WHERE { ?y (:p|:q)* :d }");
        gives("<b> / <c> / <d>", "SELECT ?y WHERE { ?y :q* :d }");
        gives("<a> / <b> / <c> / <d> / 1", "SELECT ?y WHERE { ?y :none* ?y }");
        answers(5, "SELECT * WHERE { ?x :none* ?y }");
        gives("<a> / <a> / <b> / <b> / <c> / <c>", "SELECT ?y WHERE { :a :p*|:p* ?y }");
        gives("<a> / <b> / <c> / <d>", "SELECT ?y WHERE { :a ((:p|:q)*)* ?y }");
        gives("<a> / <b> / <c> / <d> / <d>", "SELECT ?y WHERE { :a :p*/:q* ?y }");
    }

    private static void pathSome() {
        paths("5: p +: likewise, once at least");
        gives("<b> / <c>", "SELECT ?y WHERE { :a :p+ ?y }");
        gives("<a> / <b> / <c> / <d>", "SELECT ?y WHERE { :a (:p|:q)+ ?y }");
        gives("", "SELECT ?y WHERE { :b :p+ ?y }");
        gives("<a> / <b> / <c> / <d>", "SELECT ?x WHERE { ?x (:p|:q)+ ?x }");
        gives("<a>", "SELECT ?x WHERE { ?x :v+ 1 }");
        gives("<a>", "SELECT ?y WHERE { :a (:p/:q/:p)+ ?y }");
        gives("<b> / <c>", "SELECT ?y WHERE { :a (:p+)+ ?y }");
    }

    private static void pathOthers() {
        paths("5: ! of NAMES: as many times as there are triples (x, other predicate, y); of ^ NAMES: backwards");
        gives("1", "SELECT ?y WHERE { :a !(:p|:q) ?y }");
        gives("<b> / <c> / 1", "SELECT ?y WHERE { :a !:none ?y }");
        gives("", "SELECT ?y WHERE { :a !(:p|:v) ?y }");
        gives("<a>", "SELECT ?x WHERE { ?x !:p 1 }");
        gives("<a>", "SELECT ?x WHERE { ?x ^!^:q 1 }");
        gives("<d>", "SELECT ?y WHERE { :a !^:q ?y }");
        gives("", "SELECT ?y WHERE { :a !^:p ?y }");
        gives("<b> / <c> / <d>", "SELECT ?y WHERE { :a !(:v|^:q) ?y }");
        gives("<b> / <c> / 1", "SELECT ?y WHERE { :a !(:none|^:p) ?y }");
        answers(3, "INSERT DATA { :a :q :b . :a :r :b . :b :r :a }");
        gives("<b> / <b>", "SELECT ?y WHERE { :a !(:p|:v) ?y }");
        gives("<b> / <b> / <b>", "SELECT ?y WHERE { :a !(:none) ?y FILTER (?y = :b) }");
        gives("<b> / <b> / <b> / <b>", "SELECT ?y WHERE { :a !(:none|^:none) ?y FILTER (?y = :b) }");
        gives("<a> / <a>", "SELECT ?x WHERE { ?x !(:p|:v) :b FILTER (?x = :a) }");
        gives("<b>", "SELECT ?y WHERE { :a ^!(:p) ?y }");
    }

    private static void pathEnds() {
        paths("5: a path line's ends: others are all points that are subject or object of a triple that holds");
        gives("<a> <a> / <b> <b> / <c> <c> / <d> <d> / 1 1", "SELECT * WHERE { ?x :none? ?y }");
        answers(0, "RULE { ?a :v ?b } => { :new :w ?b . ?a :w :end }");
        gives("<a> / <b> / <c> / <d> / <end> / <new> / 1", "SELECT ?x WHERE { ?x :none* ?x }");
        answers(1, "INSERT DATA { :a :v2 7 }");
        answers(1, "DELETE DATA { :a :v2 7 }");
        gives("<a> / <b> / <c> / <d> / <end> / <new> / 1", "SELECT ?x WHERE { ?x :none* ?x }");
        gives("<b> 5 / <c> 5", "SELECT ?y ?n WHERE { VALUES ?n { 5 } :a (:p) ?y }");
        gives("<b>", "SELECT ?y WHERE { VALUES ?y { :b :d } :a (:p) ?y }");
        answers(1, "ASK { :a (:p/:q) :d }");
        answers(0, "ASK { :a (:p/:q) :c }");
    }

    private static void pathStrangers() {
        paths("5: .. and the one that is given, if the other end is");
        gives("<new>", "SELECT ?y WHERE { :new :p* ?y }");
        gives("<new>", "SELECT ?x WHERE { ?x :p? :new }");
        gives("9", "SELECT ?x WHERE { ?x :p* 9 }");
        gives("<p>", "SELECT ?x WHERE { ?x :p* :p }");
        gives("", "SELECT ?y WHERE { :new :p+ ?y }");
        answers(1, "ASK { :new :p* :new }");
        answers(0, "ASK { :new :p* :other }");
        answers(0, "ASK { :new :p+ :new }");
        answers(0, "ASK { :new :p* :a }");
        answers(0, "ASK { :a (:p|:q)* :new }");
        gives("<a> <a> / <a> <b> / <a> <c> / <new> <new> / \"t\" \"t\"",
            "SELECT * WHERE { VALUES ?x { :a :new \"t\" } ?x :p* ?y }");
        gives("<new> <new>", "SELECT * WHERE { VALUES (?x ?y) { (:new :new) (:new :other) (:other :new) } ?x :p? ?y }");
        answers(6, "CLEAR");
        gives("", "SELECT * WHERE { ?x :p* ?y }");
        gives("<a>", "SELECT * WHERE { :a :p* ?y }");
    }

    private static void pathOneVariable() {
        paths("5: one variable at both ends is one point");
        gives("<a> / <b> / <c> / <d> / 1", "SELECT * WHERE { ?x :p* ?x }");
        gives("<a> / <a> / <d> / <d>", "SELECT * WHERE { ?x (:p/:q/:p)|(:p/:p/:q) ?x }");
        gives("", "SELECT * WHERE { ?x :p|:q ?x }");
        gives("<new>", "SELECT * WHERE { VALUES ?x { :new } ?x :p* ?x }");
        gives("", "SELECT * WHERE { VALUES ?x { :new :b } ?x :p+ ?x }");
    }

    // 6.

    private static void items() {
        facts("6: not grouped: each row of the group gets the items with AS, in order");
        gives("3 4 8 / 1.5 2.5 5.0 / \"ab\" - -", "SELECT ?n (?n + 1 AS ?m) (?m * 2 AS ?k) WHERE { ?a :v ?n } ORDER BY DESC(?m)");
        gives("- 1", "SELECT (?b AS ?a) (1 AS ?b) WHERE { }");
        gives("1 1", "SELECT (1 AS ?a) (?a AS ?b) WHERE { }");
        gives("-", "SELECT (?z AS ?a) WHERE { }");
    }

    private static void sets() {
        facts("6: those with the same terms (or none) for all of GROUP BY's variables are one set");
        gives("<x> 2 / <y> 1 / <z> 1", "SELECT ?a (COUNT(*) AS ?n) WHERE { ?a :p ?b } GROUP BY ?a");
        gives("4", "SELECT (COUNT(*) AS ?n) WHERE { ?a :p ?b }");
        gives("0", "SELECT (COUNT(*) AS ?n) WHERE { ?a :none ?b }");
        gives("", "SELECT (COUNT(*) AS ?n) WHERE { ?a :none ?b } GROUP BY ?a");
        gives("-", "SELECT ?z WHERE { ?a :p ?b } GROUP BY ?z");
        gives("- 1 / 1 2", "SELECT ?a (COUNT(*) AS ?n) WHERE { VALUES ?a { 1 UNDEF 1 } } GROUP BY ?a");
        gives("1 1 / 1.0 1", "SELECT ?a (COUNT(*) AS ?n) WHERE { VALUES ?a { 1.0 1 } } GROUP BY ?a");
        gives("- 1 / 2.5 1 / 4 1", "SELECT ?m (COUNT(*) AS ?k) WHERE { ?a :v ?n } GROUP BY (?n + 1 AS ?m)");
        gives("4 4", "SELECT ?y (COUNT(*) AS ?k) WHERE { ?a :p ?b } GROUP BY (3 AS ?x) (?x + 1 AS ?y)");
        gives("1", "SELECT (1 AS ?k) WHERE { ?a :p ?b } HAVING (1)");
        gives("1", "SELECT (1 AS ?k) WHERE { ?a :none ?b } HAVING (1)");
        gives("<x> <y> 1 / <x> <z> 1 / <y> <z> 1 / <z> <z> 1", "SELECT ?a ?b (COUNT(*) AS ?n) WHERE { ?a :p ?b } GROUP BY ?b ?a");
    }

    private static void having() {
        facts("6: those for which HAVING is TRUE get the items with AS");
        gives("<x> 2", "SELECT ?a (COUNT(*) AS ?n) WHERE { ?a :p ?b } GROUP BY ?a HAVING (COUNT(*) > 1)");
        gives("", "SELECT ?a WHERE { ?a :p ?b } GROUP BY ?a HAVING (COUNT(*) > 2)");
        gives("", "SELECT ?a WHERE { ?a :p ?b } GROUP BY ?a HAVING (?a)");
        gives("", "SELECT (COUNT(*) AS ?n) WHERE { ?a :p ?b } HAVING (0)");
        gives("4", "SELECT (COUNT(*) AS ?n) WHERE { ?a :p ?b } HAVING (COUNT(*) = 4)");
        gives("<z>", "SELECT ?a WHERE { ?a :p ?b } GROUP BY ?a HAVING (EXISTS { ?a :p ?a })");
    }

    private static void sorted() {
        about("6: by the keys in order, nothing or ERROR first, then THE ORDER (DESC the other way round)");
        String values = "SELECT ?a WHERE { VALUES (?a) { (2) (:n) (UNDEF) (1.5) (\"t\") } } ";
        gives("- / <n> / 1.5 / 2 / \"t\"", values);
        gives("- / <n> / 1.5 / 2 / \"t\"", values + "ORDER BY ?a");
        gives("- / <n> / 1.5 / 2 / \"t\"", values + "ORDER BY ASC(?a)");
        gives("\"t\" / 2 / 1.5 / <n> / -", values + "ORDER BY DESC(?a)");
        gives("- / <n> / \"t\" / 1.5 / 2", values + "ORDER BY (?a + 1)");
        gives("2 / 1.5 / - / <n> / \"t\"", values + "ORDER BY DESC(?a + 1)");
        gives("- / <n> / \"t\" / 1.5 / 2", values + "ORDER BY (ISNUMERIC(?a)) (?a)");
        gives("1.5 / 2 / <n> / \"t\" / -", values + "ORDER BY DESC(ISNUMERIC(?a)) ?a");
        gives("- / <n> / 1.5 / 2 / \"t\"", values + "ORDER BY (1) (2) (3) (4) (5) ?a");
        gives("- / <n> / 1.5 / 2 / \"t\"", values + "ORDER BY ?none DESC(?none)");
    }

    private static void sortedByColumns() {
        about("6: rows that are alike in this by the columns in order, nothing first, then THE ORDER");
        String values = " WHERE { VALUES (?a ?b) { (2 1) (1 2) (1 1) (UNDEF 3) } }";
        gives("- 3 / 1 1 / 1 2 / 2 1", "SELECT ?a ?b" + values);
        gives("1 1 / 1 2 / 2 1 / 3 -", "SELECT ?b ?a" + values);
        gives("2 1 / 1 1 / 1 2 / - 3", "SELECT ?a ?b" + values + " ORDER BY DESC(?a)");
        gives("1 1 / 2 1 / 1 2 / - 3", "SELECT ?a ?b" + values + " ORDER BY ?b");
        gives("- / 1 / 1 / 2", "SELECT ?a" + values + " ORDER BY (1)");
        gives("1 / 2 / 1 / -", "SELECT ?a" + values + " ORDER BY ?b ?a");
        gives("2 / 1 / 1 / -", "SELECT ?a" + values + " ORDER BY ?b DESC(?a)");
        gives("2 1 / 1 1 / 1 2 / - 3", "SELECT * WHERE { VALUES (?a ?b) { (2 1) (1 2) (1 1) (UNDEF 3) } } ORDER BY DESC(?a)");
    }

    private static void columns() {
        facts("6: columns are the variables of the items, or (of *) all that are visible, by where they come first");
        gives("<y> <x> / <z> <x> / <z> <y> / <z> <z>", "SELECT ?b ?a WHERE { ?a :p ?b }");
        gives("<x> <p> <y>", "SELECT * WHERE { ?a ?b ?c FILTER (?c = :y) }");
        gives("<y> <p> <x>", "SELECT ?c ?b ?a WHERE { ?a ?b ?c FILTER (?c = :y) }");
        gives("3 <x> / 5 -", "SELECT * WHERE { { VALUES ?n { 3 5 } } OPTIONAL { ?a :v ?n } }");
        gives("", "SELECT * WHERE { FILTER (0) BIND (1 AS ?a) }");
        due("its column", "1 a", store().columns() + " " + written(store().column(0)));
    }

    private static void distinct() {
        facts("6: each row keeps its columns alone; DISTINCT: the first one of rows that are the same");
        gives("<x> / <x> / <y> / <z>", "SELECT ?a WHERE { ?a :p ?b }");
        gives("<x> / <y> / <z>", "SELECT DISTINCT ?a WHERE { ?a :p ?b }");
        gives("<z> / <y> / <x>", "SELECT DISTINCT ?a WHERE { ?a :p ?b } ORDER BY DESC(?a)");
        gives("-", "SELECT DISTINCT ?none WHERE { ?a :p ?b }");
        answers(1, "SELECT DISTINCT * WHERE { { } UNION { } }");
        answers(2, "SELECT * WHERE { { } UNION { } }");
        gives("1 / 1.0", "SELECT DISTINCT ?a WHERE { VALUES ?a { 1 1.0 1 1.00 } }");
        gives("2 / 1", "SELECT DISTINCT ?a WHERE { VALUES (?a ?b) { (1 1) (2 2) (1 3) (2 0) } } ORDER BY ?b");
        gives("1", "SELECT DISTINCT ?a WHERE { VALUES (?a ?b) { (1 1) (2 2) (1 3) (2 0) } } ORDER BY ?b OFFSET 1");
        gives("2", "SELECT DISTINCT ?a WHERE { VALUES (?a ?b) { (1 1) (2 2) (1 3) (2 0) } } ORDER BY ?b LIMIT 1");
    }

    private static void limitOffset() {
        about("6: OFFSET: so many go from the beginning; LIMIT: so many stay");
        String values = "SELECT ?a WHERE { VALUES ?a { 1 2 3 } } ";
        gives("1 / 2 / 3", values + "LIMIT 3 OFFSET 0");
        gives("2 / 3", values + "LIMIT 3 OFFSET 1");
        gives("3", values + "LIMIT 3 OFFSET 2");
        gives("", values + "LIMIT 3 OFFSET 3");
        gives("2", values + "LIMIT 1 OFFSET 1");
        gives("", values + "LIMIT 0 OFFSET 1");
        gives("3 / 2", "SELECT ?a WHERE { VALUES ?a { 1 2 3 } } ORDER BY DESC(?a) LIMIT 2");
        gives("2", "SELECT ?a WHERE { { SELECT ?a WHERE { VALUES ?a { 1 2 3 } } LIMIT 2 } } OFFSET 1");
    }

    private static void counts() {
        facts("6: COUNT( * ) how many rows (DISTINCT: how many that differ in any variable of the group); COUNT how many are no ERROR");
        gives("4 4 3", "SELECT (COUNT(*) AS ?n) (COUNT(DISTINCT *) AS ?m) (COUNT(DISTINCT ?a) AS ?k) WHERE { ?a :p ?b }");
        gives("2 1", "SELECT (COUNT(*) AS ?n) (COUNT(DISTINCT *) AS ?m) WHERE { { } UNION { } }");
        gives("8 4", "SELECT (COUNT(*) AS ?n) (COUNT(DISTINCT *) AS ?m) WHERE { ?a :p ?b { } UNION { } }");
        gives("3 2", "SELECT (COUNT(?n) AS ?k) (COUNT(?n + 1) AS ?m) WHERE { ?a :v ?n }");
        gives("0 3", "SELECT (COUNT(1 / 0) AS ?k) (COUNT(1) AS ?m) WHERE { ?a :v ?n }");
        gives("2 0", "SELECT (COUNT(DISTINCT ISNUMERIC(?n)) AS ?k) (COUNT(DISTINCT ?z) AS ?m) WHERE { ?a :v ?n }");
        gives("<x> 2 2 / <y> 1 1 / <z> 1 1", "SELECT ?a (COUNT(*) AS ?n) (COUNT(DISTINCT *) AS ?m) WHERE { ?a :p ?b } GROUP BY ?a");
        gives("2 2", "SELECT (COUNT(DISTINCT *) AS ?m) (COUNT(DISTINCT ?a) AS ?n) WHERE { SELECT ?a WHERE { VALUES ?a { 1 2 } } ORDER BY DESC(?a) }");
        gives("2 4", "SELECT (COUNT(DISTINCT *) AS ?m) (COUNT(*) AS ?n) WHERE { VALUES ?a { 1 2 1 2 } }");
        gives("3 5", "SELECT (COUNT(DISTINCT *) AS ?m) (COUNT(*) AS ?n) WHERE { VALUES (?a ?b) { (1 UNDEF) (UNDEF 1) (1 UNDEF) (1 1) (UNDEF 1) } }");
        gives("2 3", "SELECT (COUNT(DISTINCT *) AS ?m) (COUNT(*) AS ?n) WHERE { VALUES ?a { UNDEF 1 1 } }");
    }

    private static void sums() {
        about("6: SUM: the exact sum (0 of none), a whole if all are; ERROR if one is no number");
        gives("0", "SELECT (SUM(?a) AS ?s) WHERE { VALUES ?a { } }");
        gives("6", "SELECT (SUM(?a) AS ?s) WHERE { VALUES ?a { 1 2 3 } }");
        gives("6.0", "SELECT (SUM(?a) AS ?s) WHERE { VALUES ?a { 1 2 3.0 } }");
        gives("0.0", "SELECT (SUM(?a) AS ?s) WHERE { VALUES (?a) { (0.5) (-0.5) } }");
        gives("-1.5", "SELECT (SUM(?a) AS ?s) WHERE { VALUES (?a) { (0.5) (-2) } }");
        gives("- -", "SELECT (SUM(?a) AS ?s) (AVG(?a) AS ?t) WHERE { VALUES ?a { 1 \"2\" } }");
        gives("- -", "SELECT (SUM(?a) AS ?s) (AVG(?a) AS ?t) WHERE { VALUES ?a { 1 UNDEF } }");
        gives("4 3 3.0", "SELECT (SUM(?a) AS ?s) (SUM(DISTINCT ?a) AS ?t) (SUM(DISTINCT ?b) AS ?u) WHERE { VALUES (?a ?b) { (1 1.0) (1 2) (2 2) } }");
        gives("2.0", "SELECT (SUM(DISTINCT ?a) AS ?s) WHERE { VALUES ?a { 1 1.0 1 } }");
        gives("-", "SELECT (SUM(DISTINCT ?a) AS ?s) WHERE { VALUES ?a { 1 UNDEF UNDEF } }");
        gives("0.999999999", "SELECT (SUM(?a) AS ?s) WHERE { VALUES (?a) { (1) (-0.000000001) } }");
    }

    private static void sumsTooLarge() {
        about("6: SUM, AVG: ERROR if the sum is too large");
        String most = "999999999999999999";
        gives(most + " " + most + ".0", "SELECT (SUM(?a) AS ?s) (AVG(?a) AS ?t) WHERE { VALUES ?a { " + most + " } }");
        gives("- -", "SELECT (SUM(?a) AS ?s) (AVG(?a) AS ?t) WHERE { VALUES ?a { " + most + " 1 } }");
        gives("- -", "SELECT (SUM(?a) AS ?s) (AVG(?a) AS ?t) WHERE { VALUES ?a { " + most + " " + most + " } }");
        gives("-" + most, "SELECT (SUM(?a) AS ?s) WHERE { VALUES (?a) { (-" + most + ") (0) } }");
        gives("-", "SELECT (SUM(?a) AS ?s) WHERE { VALUES (?a) { (-" + most + ") (-1) } }");
        gives(most, "SELECT (SUM(?a) AS ?s) WHERE { VALUES (?a) { (" + most + ") (" + most + ") (-" + most + ") } }");
        gives("0", "SELECT (SUM(?a) AS ?s) WHERE { VALUES (?a) { " + bytes("(" + most + ")", 10) + bytes("(-" + most + ")", 10) + " } }");
        gives("-", "SELECT (SUM(?a) AS ?s) WHERE { VALUES ?a { " + bytes(most + " ", 40) + " } }");
        for (int many : new int[] {2, 9, 10, 18, 19, 36, 37, 38}) {
            fresh();
            gives("- -", "SELECT (SUM(?a) AS ?s) (AVG(?a) AS ?t) WHERE { VALUES ?a { " + bytes(most + " ", many) + " } }");
            gives("- -", "SELECT (SUM(?a) AS ?s) (AVG(?a) AS ?t) WHERE { VALUES (?a) { " + bytes("(-" + most + ")", many) + " } }");
        }
        fresh();
        gives("-", "SELECT (SUM(?a) AS ?s) WHERE { VALUES ?a { 1000000000 0.000000001 } }");
        gives("999999999.999999999", "SELECT (SUM(?a) AS ?s) WHERE { VALUES ?a { 999999999 0.999999999 } }");
        gives("1000000000.0", "SELECT (SUM(?a) AS ?s) WHERE { VALUES ?a { 999999999 0.999999999 0.000000001 } }");
        gives("0.000000001", "SELECT (SUM(?a) AS ?s) WHERE { VALUES (?a) { (" + most + ") (0.000000001) (-" + most + ") } }");
    }

    private static void averages() {
        about("6: AVG: it by how many, as / has it (of none the whole 0)");
        gives("0", "SELECT (AVG(?a) AS ?s) WHERE { VALUES ?a { } }");
        gives("1.0", "SELECT (AVG(?a) AS ?s) WHERE { VALUES ?a { 1 } }");
        gives("1.5", "SELECT (AVG(?a) AS ?s) WHERE { VALUES ?a { 1 2 } }");
        gives("1.333333333", "SELECT (AVG(?a) AS ?s) WHERE { VALUES ?a { 1 1 2 } }");
        gives("-0.666666667", "SELECT (AVG(?a) AS ?s) WHERE { VALUES (?a) { (-1) (-1) (0) } }");
        gives("1.5", "SELECT (AVG(DISTINCT ?a) AS ?s) WHERE { VALUES ?a { 1 1 2 } }");
        gives("0.000000001", "SELECT (AVG(?a) AS ?s) WHERE { VALUES ?a { 0.000000001 0 } }");
        gives("0.0", "SELECT (AVG(?a) AS ?s) WHERE { VALUES ?a { 0.000000001 0 0 } }");
        gives("-", "SELECT (AVG(?a) AS ?s) WHERE { VALUES ?a { 999999999999999998 0.000000001 } }");
    }

    private static void extremes() {
        about("6: MIN, SAMPLE: the first by THE ORDER of those that are no ERROR, MAX the last one; ERROR of none");
        gives("_:b _:b true", "SELECT (MIN(?a) AS ?s) (SAMPLE(?a) AS ?t) (MAX(?a) AS ?u) WHERE { VALUES (?a) { (5) (true) (UNDEF) (_:b) (:n) (false) } }");
        gives("1 1 1.0", "SELECT (MIN(?a) AS ?s) (SAMPLE(?a) AS ?t) (MAX(?a) AS ?u) WHERE { VALUES ?a { 1.0 1 } }");
        gives("- - -", "SELECT (MIN(?a) AS ?s) (SAMPLE(?a) AS ?t) (MAX(?a) AS ?u) WHERE { VALUES ?a { } }");
        gives("- - -", "SELECT (MIN(?a) AS ?s) (SAMPLE(?a) AS ?t) (MAX(?a) AS ?u) WHERE { VALUES ?a { UNDEF } }");
        gives("9 10", "SELECT (MIN(DISTINCT ?a) AS ?s) (MAX(DISTINCT ?a) AS ?u) WHERE { VALUES ?a { 10 9 10 } }");
        gives("\"10\" \"9\"", "SELECT (MIN(?a) AS ?s) (MAX(?a) AS ?u) WHERE { VALUES ?a { \"10\" \"9\" } }");
        answers(2, "INSERT DATA { :a :p :b . :b :p 1 }");
        gives("<a> <a> <b>", "SELECT (MIN(?a) AS ?s) (SAMPLE(?a) AS ?t) (MAX(?a) AS ?u) WHERE { ?a :p ?b }");
        gives("<a> <a>", "SELECT (MIN(?a) AS ?s) (MAX(?a) AS ?u) WHERE { ?a :p :b }");
        gives("<b> 1", "SELECT (MIN(?b) AS ?s) (MAX(?b) AS ?u) WHERE { ?a :p ?b }");
    }

    private static void groupConcat() {
        about("6: GROUPCONCAT: their STRINGS, in THE ORDER of the terms (9 ahead of 10), with TEXT (a space) between");
        gives("\"n 9 10 10 t\"", "SELECT (GROUPCONCAT(?a) AS ?s) WHERE { VALUES ?a { 10 \"t\" 9 :n 10 } }");
        gives("\"n9101\"", "SELECT (GROUPCONCAT(?a ; \"\") AS ?s) WHERE { VALUES ?a { \"1\"@en 10 9 :n } }");
        gives("\"9, 10\"", "SELECT (GROUPCONCAT(DISTINCT ?a ; \", \") AS ?s) WHERE { VALUES ?a { 10 9 10 9 } }");
        gives("\"\"", "SELECT (GROUPCONCAT(?a) AS ?s) WHERE { VALUES ?a { } }");
        gives("\"\"", "SELECT (GROUPCONCAT(?a ; \",\") AS ?s) WHERE { VALUES ?a { \"\" } }");
        gives("\",\"", "SELECT (GROUPCONCAT(?a ; \",\") AS ?s) WHERE { VALUES ?a { \"\" \"\" } }");
        gives("-", "SELECT (GROUPCONCAT(?a) AS ?s) WHERE { VALUES ?a { 1 UNDEF } }");
        gives("-", "SELECT (GROUPCONCAT(?a) AS ?s) WHERE { VALUES ?a { _:b 1 } }");
        gives("\"a a a true\"", "SELECT (GROUPCONCAT(?a) AS ?s) WHERE { VALUES ?a { \"a\"^^<n> \"a\"@en \"a\" true } }");
        gives("\"1.5 2.0\"", "SELECT (GROUPCONCAT(?a) AS ?s) WHERE { VALUES ?a { 2.0 1.50 } }");
        gives("\"a\\nb\"", "SELECT (GROUPCONCAT(?a ; \"\\n\") AS ?s) WHERE { VALUES ?a { \"b\" \"a\" } }");
    }

    private static void groupConcatTooLong() {
        about("6: GROUPCONCAT: ERROR for more than 64 bytes");
        gives("\"" + bytes("t", 64) + "\"", "SELECT (GROUPCONCAT(?a) AS ?s) WHERE { VALUES ?a { \"" + bytes("t", 64) + "\" } }");
        String half = "\"" + bytes("t", 32) + "\"";
        gives("\"" + bytes("t", 64) + "\"", "SELECT (GROUPCONCAT(?a ; \"\") AS ?s) WHERE { VALUES ?a { " + half + " " + half + " } }");
        gives("-", "SELECT (GROUPCONCAT(?a) AS ?s) WHERE { VALUES ?a { " + half + " " + half + " } }");
        gives("-", "SELECT (GROUPCONCAT(?a ; \"\") AS ?s) WHERE { VALUES ?a { " + half + " " + half + " \"t\" } }");
        gives("\"" + bytes("t", 31) + " " + bytes("t", 32) + "\"",
            "SELECT (GROUPCONCAT(?a) AS ?s) WHERE { VALUES ?a { " + half + " \"" + bytes("t", 31) + "\" } }");
        gives("-", "SELECT (GROUPCONCAT(?a) AS ?s) WHERE { VALUES ?a { \"" + bytes("t", 64) + "\" \"\" } }");
        gives("\"" + bytes("t", 64) + "\"", "SELECT (GROUPCONCAT(?a ; \"\") AS ?s) WHERE { VALUES ?a { \"" + bytes("t", 64) + "\" \"\" } }");
    }

    private static void aggregatesBesideSelects() {
        facts("6: the sets of a SELECT in an EXISTS are none of the set that is looked at");
        String within = "EXISTS { SELECT (COUNT(*) AS ?c) WHERE { } HAVING (COUNT(*) = 1) }";
        gives("true 4 true 4", "SELECT (" + within + " AS ?e) (COUNT(*) AS ?n) (" + within + " AS ?f) (COUNT(?b) AS ?m) WHERE { ?a :p ?b }");
        gives("4 4", "SELECT (SUM(IF(" + within + ", 1, 0)) AS ?s) (COUNT(*) AS ?n) WHERE { ?a :p ?b }");
        gives("4 4", "SELECT (COUNT(*) AS ?n) (COUNT(?b) AS ?m) WHERE { ?a :p ?b } HAVING (" + within + " && COUNT(*) = 4)");
        gives("<x> 2 / <y> 1 / <z> 1", "SELECT ?a (COUNT(*) AS ?n) WHERE { ?a :p ?b } GROUP BY ?a ORDER BY (" + within + ") DESC(COUNT(*))");
    }

    private static void aggregatesOfNone() {
        about("6: aggregates over no rows, and over rows that give nothing");
        String all = "SELECT (COUNT(*) AS ?a) (COUNT(?x) AS ?b) (SUM(?x) AS ?c) (AVG(?x) AS ?d) (MIN(?x) AS ?e) (MAX(?x) AS ?f) "
            + "(SAMPLE(?x) AS ?g) (GROUPCONCAT(?x) AS ?h) (COUNT(DISTINCT *) AS ?i) (COUNT(DISTINCT ?x) AS ?j) WHERE ";
        gives("0 0 0 0 - - - \"\" 0 0", all + "{ FILTER (0) }");
        gives("1 0 - - - - - - 1 0", all + "{ }");
        gives("2 0 - - - - - - 1 0", all + "{ { } UNION { } }");
    }
}
