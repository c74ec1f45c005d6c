/** README.md's example, as it stands there, with the answers that it names. */
public final class ReadmeExample {
    private static int wrong = 0;

    static int run(TripleStore store, String statement) {
        for (int i = 0; i < statement.length(); i++) {
            store.type(statement.charAt(i), 1);             // or up to eight bytes in one call
        }
        return store.run();
    }

    static String written(TripleStore store, int bytes) {
        StringBuilder text = new StringBuilder();
        for (int i = 0; i < bytes; i++) {
            text.append((char) store.written(i));
        }
        return text.toString();
    }

    private static void due(String what, Object want, Object got) {
        if (!want.equals(got)) {
            wrong++;
            System.out.println(what + " answered " + got + ", due is " + want);
        }
    }

    public static void main(String[] args) {
        TripleStore store = new TripleStore();
        due("INSERT", 3, run(store, "INSERT DATA { :ann :knows :bob . :bob :knows :cid ; :age 41 }"));
        due("RULE", 0, run(store, "RULE { ?a :knows ?b . ?b :knows ?c } => { ?a :mayknow ?c }"));
        due("SELECT", 2,
            run(store, "SELECT ?who ?what WHERE { ?who :mayknow|:age ?what } ORDER BY DESC(?who)"));
        String[] cells = {"<bob>", "41", "<ann>", "<cid>"};
        due("rows()", 2, store.rows());
        due("columns()", 2, store.columns());
        for (int i = 0; i < cells.length; i++) {
            due("cell " + i, cells[i], written(store, store.cell(i / 2, i % 2)));
        }
        System.out.println(wrong + " not as README.md says");
        System.exit(wrong == 0 ? 0 : 1);
    }
}
