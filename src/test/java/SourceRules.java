import java.io.IOException;
import java.nio.charset.StandardCharsets;
import java.nio.file.Files;
import java.nio.file.Path;
import java.util.Arrays;
import java.util.HashSet;
import java.util.List;
import java.util.Set;
import java.util.regex.Matcher;
import java.util.regex.Pattern;

/**
 * What can be told of LANGUAGE.md by looking at the source's lines: the rules' numbers are its own.
 * Rule 11's chains of calls are told by tools/calls.py.
 */
public final class SourceRules {
    private static final Path SOURCE = Path.of("src", "main", "java", "TripleStore.java");
    private static final Pattern METHOD = Pattern.compile("^( +)((?:public |private |static |final |abstract )*)[\\w\\[\\]<>]+ (\\w+)\\((.*)\\) \\{$");
    private static final Set<String> FACE = new HashSet<>(Arrays.asList("type", "wipe", "run", "place", "rows", "columns", "cell",
        "column", "written", "made", "plan", "triples", "said", "terms", "rules", "term", "find", "count"));
    private static int wrong = 0;

    public static void main(String[] args) throws IOException {
        List<String> lines = Files.readAllLines(SOURCE, StandardCharsets.ISO_8859_1);
        String[] code = new String[lines.size()];
        boolean inComment = false;
        for (int i = 0; i < code.length; i++) {
            String line = lines.get(i);
            inComment = inComment || line.strip().startsWith("/*");
            code[i] = inComment ? "" : bare(line);
            inComment = inComment && !line.contains("*/");
            check(12, i, line.chars().allMatch(c -> c >= 32 && c < 127), "other signs than 32 .. 126");
        }
        words(code);
        imports(code);
        methods(code);
        classes(code);
        System.out.println(code.length + " lines, " + wrong + " against the rules");
        if (wrong != 0 || code.length < 100) {
            System.exit(1);
        }
    }

    private static void check(int rule, int line, boolean holds, String what) {
        if (!holds) {
            wrong++;
            System.out.println("rule " + rule + ", line " + (line + 1) + ": " + what);
        }
    }

    /** A line without its remark and without what is in quotes. */
    private static String bare(String line) {
        String out = line.replaceAll("\"(\\\\.|[^\"\\\\])*\"", "\"\"").replaceAll("'(\\\\.|[^'\\\\])'", "' '");
        int remark = out.indexOf("//");
        return remark < 0 ? out : out.substring(0, remark);
    }

    private static void words(String[] code) {
        Pattern six = Pattern.compile("\\b(throw|throws|try|catch|synchronized|assert|equals|hashCode|toString|finally)\\b");
        Pattern two = Pattern.compile("->|::|\\bprotected\\b|\\bvolatile\\b|\\bnative\\b");
        Pattern four = Pattern.compile("\\b(System\\.(?!arraycopy)|Thread|Random|Float|Double|Object|Character|Boolean|Byte|Short|Math\\.\\w+Exact)");
        Pattern ten = Pattern.compile("\"\" \\+|\\+ \"\"");
        for (int i = 0; i < code.length; i++) {
            check(6, i, !six.matcher(code[i]).find(), code[i]);
            check(2, i, !two.matcher(code[i]).find(), code[i]);
            check(4, i, !four.matcher(code[i]).find(), code[i]);
            check(10, i, !ten.matcher(code[i]).find(), code[i]);
            check(5, i, !code[i].matches(" +static \\{.*"), code[i]);
            check(5, i, !code[i].matches(".*\\bstatic (?!final|class).*[;=].*") || code[i].contains("("), code[i]);
        }
    }

    private static void imports(String[] code) {
        Set<String> known = new HashSet<>(Arrays.asList("java.util.Arrays", "java.util.ArrayList", "java.util.List", "java.util.Iterator"));
        for (int i = 0; i < code.length; i++) {
            if (code[i].startsWith("import ")) {
                check(4, i, known.contains(code[i].substring(7).replace(";", "")), code[i]);
            }
            check(1, i, !code[i].startsWith("package"), "a package");
        }
    }

    private static void methods(String[] code) {
        Set<String> face = new HashSet<>();
        for (String line : code) {
            Matcher m = METHOD.matcher(line);
            if (m.matches() && m.group(2).contains("public")) {
                face.add(m.group(3));
            }
        }
        check(1, 0, face.equals(FACE), "the face is " + face);
        for (int i = 0; i < code.length; i++) {
            Matcher m = METHOD.matcher(code[i]);
            if (m.matches() && !m.group(3).equals("TripleStore") && !code[i].contains(" else ") && !code[i].contains("return ")) {
                int end = i;
                while (end < code.length && !code[end].equals(m.group(1) + "}")) {
                    end++;
                }
                check(11, i, end - i < 60, m.group(3) + " has " + (end - i + 1) + " lines");
                check(11, i, m.group(4).isEmpty() || m.group(4).split(",").length <= 7, m.group(3) + " takes too many");
                check(1, i, m.group(2).contains("public") || !FACE.contains(m.group(3)), m.group(3) + " bears a public name");
                check(1, i, m.group(1).length() > 4 || m.group(2).contains("public") || m.group(2).contains("private"), m.group(3) + " is visible");
            }
        }
    }

    private static void classes(String[] code) {
        int classes = 0;
        for (int i = 0; i < code.length; i++) {
            if (code[i].matches(" *(public |private |static |final |abstract )*(class|enum|interface|record) \\w+.*")) {
                classes++;
                check(2, i, i < 20 || code[i].contains("static"), "a class that is not static");
            }
        }
        check(11, 0, classes <= 12, classes + " classes");
    }
}
