import java.util.Random;

/**
 * Calls with any arguments in any state: none throws, what can be counted fits together, and a fault
 * changes nothing that is said, holds or has a number.
 */
public final class AnyCalls {
    private static final String[] PIECES = {"SELECT", "WHERE", "{", "}", "(", ")", ".", ",", ";", "?a", "?b", "?c", ":p",
        ":q", ":x", "a", "5", "-3", "1.5", "\"t\"", "\"t\"@en", "true", "FILTER", "OPTIONAL", "UNION", "AS", "*", "/", "|",
        "^", "!", "+", "-", "=", "<", "&&", "||", "IN", "NOT", "EXISTS", "COUNT", "SUM", "GROUPCONCAT", "GROUP", "BY",
        "HAVING", "ORDER", "LIMIT", "OFFSET", "UNDEF", "VALUES", "BIND", "=>", "_:x", "<a", ">", "#", "&", "@", "DISTINCT",
        "DESC", "BOUND", "STRLEN", "CONCAT", "IF", "MINUS", "INSERT", "DELETE", "DATA", "RULE", "UNRULE", "CLEAR", "ASK",
        "CONSTRUCT", "\n", "\"", "\u0080", "INSERT DATA {", "SELECT * WHERE { ?a :p ?b", "ASK { ?a :p* ?b", "FILTER (",
        ":x :p :y .", "?a :p ?b .", "} WHERE {", "INSERT { ?a :q ?b . ?b :p ?a } WHERE {", "RULE { ?a :p ?b } => { ?b :p ?a }"};
    private static final int[] NUMBERS = {0, 1, 2, 3, 4, 5, 6, 7, 8, 9, -1, -2, 100, 800, 801, 1023, 1024, 2000, 8000,
        Integer.MAX_VALUE, Integer.MIN_VALUE, Integer.MAX_VALUE - 1, 1 << 20, 1 << 30};
    private static int wrong = 0;

    public static void main(String[] args) {
        Random random = new Random(7);
        for (int i = 0; i < 300; i++) {
            TripleStore store = new TripleStore();
            for (int k = 0; k < 700; k++) {
                call(store, random);
            }
            check(store, i);
        }
        System.out.println(wrong + " states do not fit together");
        if (wrong != 0) {
            System.exit(1);
        }
    }

    private static int number(Random random) {
        return random.nextInt(4) == 0 ? random.nextInt() : NUMBERS[random.nextInt(NUMBERS.length)];
    }

    private static void call(TripleStore store, Random random) {
        switch (random.nextInt(16)) {
            case 0: store.type(random.nextLong(), number(random)); break;
            case 1: if (random.nextInt(9) == 0) { store.wipe(); } break;
            case 2: case 3: faultChangesNothing(store); break;
            case 4: store.cell(number(random), number(random)); break;
            case 5: store.column(number(random)); break;
            case 6: store.written(number(random)); break;
            case 7: store.plan(number(random)); break;
            case 8: store.term(number(random)); break;
            case 9: store.find(number(random), number(random), number(random)); break;
            case 10: store.count(number(random), number(random), number(random), number(random), number(random)); break;
            case 11: enter(store, statement(random)); faultChangesNothing(store); break;
            default: enter(store, PIECES[random.nextInt(PIECES.length)] + " ");
        }
    }

    private static String statement(Random random) {
        int a = random.nextInt(9);
        int b = random.nextInt(9);
        switch (random.nextInt(6)) {
            case 0: return "INSERT DATA { :n" + a + " :p :n" + b + " , " + a + " }";
            case 1: return "DELETE DATA { :n" + a + " :p :n" + b + " }";
            case 2: return "RULE { ?a :p ?b . ?b :p ?c } => { ?a :p" + (a % 2 == 0 ? "" : "q") + " ?c }";
            case 3: return "UNRULE " + a % 3;
            case 4: return "SELECT ?a (COUNT(*) AS ?n) WHERE { ?a :p* ?b OPTIONAL { ?b :p ?c } } GROUP BY ?a ORDER BY DESC(?n)";
            default: return "DELETE { ?a :p ?b } INSERT { ?b :p ?a . ?b :r ?m } WHERE { ?a :p ?b BIND (?b + " + a + " AS ?m) }";
        }
    }

    private static void enter(TripleStore store, String text) {
        for (int i = 0; i < text.length(); i++) {
            store.type(text.charAt(i), 1);
        }
    }

    private static String state(TripleStore store) {
        return store.triples() + " " + store.said() + " " + store.terms() + " " + store.rules();
    }

    private static void faultChangesNothing(TripleStore store) {
        String before = state(store);
        int answer = store.run();
        boolean empty = store.rows() == 0 && store.columns() == 0 && store.cell(0, 0) == TripleStore.BAD;
        if (answer < 0 && (!empty || !before.equals(state(store)))) {
            wrong++;
            System.out.println("fault " + answer + " changed " + before + " to " + state(store));
        }
    }

    private static void check(TripleStore store, int seed) {
        int said = 0;
        for (int k = 0; k < store.triples(); k++) {
            said += store.find(0, k, 3);
            int s = store.find(0, k, 0);
            int p = store.find(0, k, 1);
            int o = store.find(0, k, 2);
            if (store.count(0, 3, s, p, o) != 1 || store.count(3, 3, p, o, s) != 1 || store.count(4, 2, o, s, 0) < 1) {
                wrong++;
                System.out.println("run " + seed + ": triple " + k + " is not counted");
            }
        }
        for (int order = 0; order < 6; order++) {
            int all = 0;
            for (int n = 1; n <= store.terms(); n++) {
                all += store.count(order, 1, n, 0, 0);
            }
            if (all != store.triples() || store.count(order, 0, 0, 0, 0) != all) {
                wrong++;
                System.out.println("run " + seed + ": ordering " + order + " has " + all + " triples");
            }
        }
        if (said != store.said()) {
            wrong++;
            System.out.println("run " + seed + ": said " + said + " and " + store.said());
        }
    }
}
