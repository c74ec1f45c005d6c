import java.io.IOException;
import java.nio.charset.StandardCharsets;
import java.nio.file.Files;
import java.nio.file.Path;
import java.util.ArrayList;
import java.util.List;

/**
 * Runs of statements with all that can be asked of the object behind each one. What is due was worked
 * out by a second program, which was written from the document alone, in its plainest form. In the
 * files under src/test/data: NEW is a new object; > a statement (\xHH is a byte); = its answer, place,
 * made, rows, columns and the columns' names; | a row of the result (or # a hash of all of them);
 * . how many triples, said, terms and rules there are, the plan, and hashes of the terms and triples.
 */
public final class RecordedRuns {
    private static int wrong = 0;

    public static void main(String[] args) throws IOException {
        int statements = 0;
        for (String file : new String[] {"statements.txt", "edges.txt"}) {
            statements += read(Files.readAllLines(Path.of("src", "test", "data", file), StandardCharsets.ISO_8859_1));
        }
        System.out.println(statements + " statements, " + wrong + " not as due");
        if (wrong != 0 || statements == 0) {
            System.exit(1);
        }
    }

    private static int read(List<String> lines) {
        TripleStore store = new TripleStore();
        int statements = 0;
        for (int i = 0; i < lines.size(); i++) {
            if (lines.get(i).equals("NEW")) {
                store = new TripleStore();
            } else {
                String statement = lines.get(i);
                List<String> due = new ArrayList<>();
                while (i + 1 < lines.size() && !lines.get(i + 1).startsWith(">") && !lines.get(i + 1).equals("NEW")) {
                    i++;
                    due.add(lines.get(i));
                }
                boolean hashed = due.size() > 1 && due.get(1).startsWith("#");
                List<String> got = answers(store, statement.substring(2), hashed);
                statements++;
                if (!got.equals(due)) {
                    wrong++;
                    System.out.println(statement + "\n  due " + due + "\n  got " + got);
                }
            }
        }
        return statements;
    }

    private static List<String> answers(TripleStore store, String statement, boolean hashed) {
        enter(store, statement);
        List<String> out = new ArrayList<>();
        StringBuilder line = new StringBuilder("= ").append(store.run());
        line.append(' ').append(store.place()).append(' ').append(store.made()).append(' ').append(store.rows());
        line.append(' ').append(store.columns()).append(' ');
        for (int c = 0; c < store.columns(); c++) {
            line.append(c > 0 ? "|" : "").append(written(store, store.column(c)));
        }
        out.add(line.toString());
        List<String> rows = new ArrayList<>();
        for (int r = 0; r < store.rows(); r++) {
            line = new StringBuilder();
            for (int c = 0; c < store.columns(); c++) {
                int n = store.cell(r, c);
                line.append(c > 0 ? " " : "").append(n == 0 ? "-" : written(store, n));
            }
            rows.add(line.toString());
        }
        if (hashed) {
            out.add("# " + String.join("\n", rows).hashCode());
        } else {
            rows.forEach(row -> out.add("| " + row));
        }
        out.add(state(store));
        return out;
    }

    private static String state(TripleStore store) {
        StringBuilder plan = new StringBuilder("plan ");
        for (int k = 0; store.plan(k) != TripleStore.BAD; k++) {
            plan.append(k > 0 ? " " : "").append(store.plan(k));
        }
        StringBuilder terms = new StringBuilder("terms ");
        for (int k = 1; k <= store.terms(); k++) {
            terms.append(k > 1 ? " " : "").append(written(store, store.term(k)));
        }
        StringBuilder holds = new StringBuilder("holds ");
        for (int k = 0; k < store.triples(); k++) {
            holds.append(k > 0 ? " " : "");
            for (int part = 0; part < 4; part++) {
                holds.append(part > 0 ? "," : "").append(store.find(0, k, part));
            }
        }
        return ". " + store.triples() + " " + store.said() + " " + store.terms() + " " + store.rules() + " " + plan
            + " " + terms.toString().hashCode() + " " + holds.toString().hashCode();
    }

    private static String written(TripleStore store, int n) {
        StringBuilder out = new StringBuilder();
        for (int i = 0; i < n; i++) {
            out.append((char) store.written(i));
        }
        return out.toString();
    }

    private static void enter(TripleStore store, String statement) {
        for (int i = 0; i < statement.length(); i++) {
            int b = statement.charAt(i);
            if (b == '\\') {
                b = Integer.parseInt(statement.substring(i + 2, i + 4), 16);
                i += 3;
            }
            store.type(b, 1);
        }
    }
}
