/**
 * What tests have in common: a store, statements that it runs, and the answers that are due. All
 * calls go by store(), which counts them: an object is promised for 512 calls, no test asks for more.
 */
class Check {
    static final int BAD = TripleStore.BAD;
    static final int FULL = TripleStore.FULL;
    private static final int MAX_CALLS = 512;
    private static String sentence = "";
    private static TripleStore store = new TripleStore();
    private static int calls = 0;
    private static int asked = 0;
    private static int wrong = 0;

    /** A new store, for a sentence of the document. */
    static void about(String newSentence) {
        fresh();
        sentence = newSentence;
    }

    /** A new store for the same sentence. */
    static void fresh() {
        countCalls();
        store = new TripleStore();
        calls = 0;
    }

    private static void countCalls() {
        if (calls > MAX_CALLS) {
            wrong++;
            System.out.println(sentence + ": the test makes " + calls + " calls of one object");
        }
    }

    static TripleStore store() {
        calls++;
        return store;
    }

    /** Tells how many answers were wrong; with one the test has failed. */
    static void finish() {
        countCalls();
        System.out.println(asked + " answers, " + wrong + " not as due");
        if (wrong != 0 || asked == 0) {
            System.exit(1);
        }
    }

    static void due(String what, Object want, Object got) {
        asked++;
        if (!String.valueOf(want).equals(String.valueOf(got))) {
            wrong++;
            System.out.println(sentence + ": " + what + " answered " + got + ", due is " + want);
        }
    }

    // Statements.

    static void enter(String text) {
        for (int i = 0; i < text.length(); i += 8) {
            int n = Math.min(8, text.length() - i);
            long bytes = 0;
            for (int k = 0; k < n; k++) {
                bytes = bytes << 8 | text.charAt(i + k) & 255;
            }
            store().type(bytes, n);
        }
    }

    static int run(String text) {
        enter(text);
        return store().run();
    }

    static void answers(int want, String text) {
        due(text, want, run(text));
    }

    /** The statement has a fault: its place, an empty result, and no plan but with fault 5. */
    static void fails(int fault, int place, String text) {
        due(text, "-" + (100 + fault) + " at " + place, run(text) + " at " + store().place());
        due(text + ": rows, columns, made", fault == 5 ? "0 0 8000" : "0 0 0",
            store().rows() + " " + store().columns() + " " + store().made());
        if (fault != 5) {
            due(text + ": plan", BAD, store().plan(0));
        }
    }

    /** A fault where @@ stands in the text. */
    static void failsAt(int fault, String marked) {
        int place = marked.indexOf("@@");
        fails(fault, place, marked.substring(0, place) + marked.substring(place + 2));
    }

    /** The statement's result: rows between slashes, - where nothing stands. */
    static void gives(String want, String text) {
        int answer = run(text);
        due(text, want, answer < 0 ? String.valueOf(answer) : table());
        due(text + ": rows", Math.max(0, answer), store().rows());
    }

    /** What an expression is worth for a row that gives nothing: written, or - for ERROR. */
    static void worth(String want, String expression) {
        fresh();
        gives(want, "SELECT (" + expression + " AS ?z) WHERE { }");
    }

    static void made(int want, String text) {
        run(text);
        due(text + ": made", want, store().made());
    }

    static String plan(int many) {
        StringBuilder out = new StringBuilder();
        for (int k = 0; k < many; k++) {
            out.append(k > 0 ? " " : "").append(store().plan(k));
        }
        return out.toString();
    }

    /** How many triples, said, terms and rules there are. */
    static String state() {
        return store().triples() + " " + store().said() + " " + store().terms() + " " + store().rules();
    }

    static String written(int n) {
        StringBuilder out = new StringBuilder();
        for (int i = 0; i < n; i++) {
            out.append((char) store().written(i));
        }
        due("written behind the end", BAD, store().written(Math.max(0, n)));
        return out.toString();
    }

    static String table() {
        StringBuilder out = new StringBuilder();
        int rows = store().rows();
        int columns = store().columns();
        for (int r = 0; r < rows; r++) {
            out.append(r > 0 ? " / " : "");
            for (int c = 0; c < columns; c++) {
                int n = store().cell(r, c);
                out.append(c > 0 ? " " : "").append(n == 0 ? "-" : written(n));
            }
        }
        return out.toString();
    }

    // Texts.

    /** A piece so many times; # in it is the number of the time, from 0. */
    static String repeat(String piece, String between, int times) {
        StringBuilder out = new StringBuilder();
        for (int i = 0; i < times; i++) {
            out.append(i > 0 ? between : "").append(piece.replace("#", String.valueOf(i)));
        }
        return out.toString();
    }

    /** The numbers from one on up to another one. */
    static String range(int from, int to, String between) {
        StringBuilder out = new StringBuilder();
        for (int i = from; i <= to; i++) {
            out.append(i > from ? between : "").append(i);
        }
        return out.toString();
    }

    static String bytes(String piece, int times) {
        return repeat(piece, "", times);
    }
}
