"""Breaks the class in one place after the other and tells which breaks no test finds.

    python3 tools/breaks.py [FIRST LINE [LAST LINE]]

Each break turns a comparison, a sign, a number or a statement of one line into another one; all tests
under src/test/java and ../shared/tests are run against it. What is left is to be looked at: most of it
stands for the same (guards that nothing reaches, sizes of rows, hashes), the rest wants a test.
Needs javac and java; some 4800 breaks take half an hour on eight cores.
"""
import concurrent.futures, os, re, shutil, subprocess, sys, tempfile

ROOT = os.path.dirname(os.path.dirname(os.path.abspath(__file__)))
SOURCE = os.path.join(ROOT, 'src/main/java/TripleStore.java')
OTHER = {'<=': '<', '>=': '>', '==': '!=', '!=': '==', '&&': '||', '||': '&&', '<': '<=', '>': '>=', '++': '--',
         '--': '++', '+': '-', '-': '+', '*': '+', 'true': 'false', 'false': 'true'}
PIECE = re.compile(r'<=|>=|==|!=|&&|\|\||(?<![<>=-])<(?![<=])|(?<![<>=-])>(?![>=])|(?<![\w.])\d+(?![\w.L])|\+\+|--'
                   r'|(?<= )[-+*](?= )|\btrue\b|\bfalse\b')
STATEMENT = re.compile(r'\s+[\w.\[\]]+(\(.*\)|\+\+|--|\s*[+\-|^&]?=\s.*);$')
NAMED = re.compile(r'\s*private static final int [A-Z_0-9]+ = \d+;')


def bare(line):
    """A line without remarks and without what is in quotes."""
    line = re.sub(r'"(\\.|[^"\\])*"', lambda m: '"' + '_' * (len(m[0]) - 2) + '"', line)
    line = re.sub(r"'(\\.|[^'\\])'", lambda m: "'" + '_' * (len(m[0]) - 2) + "'", line)
    return line.split('//')[0]


def breaks(lines, first, last):
    for i, line in enumerate(lines):
        if not first <= i + 1 <= last or line.strip().startswith(('//', '*', '/**', 'import')):
            continue
        code = bare(line)
        for m in PIECE.finditer(code):
            if not m[0].isdigit():
                yield i, m.start(), m.end(), OTHER[m[0]]
            elif not NAMED.match(code) or 'MAX' in code:
                yield i, m.start(), m.end(), str(int(m[0]) + 1)
        if STATEMENT.match(code) and not re.match(r'\s+(return|private|final|int|long|boolean|byte|Node|Value)\b', code):
            yield i, len(line) - len(line.lstrip()), len(line.rstrip()), ';'


def compile_tests(out):
    tests = []
    for folder in (os.path.join(ROOT, '../shared/tests'), os.path.join(ROOT, 'src/test/java')):
        for name in sorted(os.listdir(folder)):
            tests.append(os.path.join(folder, name))
    mains = [os.path.basename(t)[:-5] for t in tests if 'AnyCalls' not in t and 'SourceRules' not in t]
    runner = os.path.join(out, 'AllTests.java')
    with open(runner, 'w') as f:
        f.write('public class AllTests { public static void main(String[] a) { '
                'System.setOut(new java.io.PrintStream(java.io.OutputStream.nullOutputStream())); try { '
                + ' '.join(m + '.main(a);' for m in mains) + ' } catch (Throwable t) { System.exit(1); } } }')
    subprocess.run(['javac', '-d', out, '-sourcepath', os.path.join(ROOT, 'src/test/support'), SOURCE, runner] + tests, check=True)
    for name in os.listdir(out):
        if re.match(r'TripleStore(\$.*)?\.class$', name):
            os.remove(os.path.join(out, name))


def found(lines, one, tests):
    """Whether a test finds a break (one that does not compile, or that does not end, counts as found)."""
    i, start, end, other = one
    broken = list(lines)
    broken[i] = lines[i][:start] + other + lines[i][end:]
    out = tempfile.mkdtemp()
    try:
        path = os.path.join(out, 'TripleStore.java')
        with open(path, 'w') as f:
            f.write('\n'.join(broken))
        if subprocess.run(['javac', '-nowarn', '-d', out, path], capture_output=True).returncode:
            return True
        return subprocess.run(['java', '-XX:+UseSerialGC', '-cp', out + ':' + tests, 'AllTests'], capture_output=True,
                              timeout=100, cwd=ROOT).returncode != 0
    except subprocess.TimeoutExpired:
        return True
    finally:
        shutil.rmtree(out, ignore_errors=True)


def main():
    lines = open(SOURCE).read().split('\n')
    first = int(sys.argv[1]) if len(sys.argv) > 1 else 1
    last = int(sys.argv[2]) if len(sys.argv) > 2 else len(lines)
    tests = tempfile.mkdtemp()
    compile_tests(tests)
    all_breaks = list(breaks(lines, first, last))
    left = 0
    with concurrent.futures.ThreadPoolExecutor(os.cpu_count()) as pool:
        for one, is_found in zip(all_breaks, pool.map(lambda b: found(lines, b, tests), all_breaks)):
            if not is_found:
                left += 1
                i, start, end, other = one
                print('%d: %s[[%s -> %s]]%s' % (i + 1, lines[i][:start].strip(), lines[i][start:end], other, lines[i][end:]), flush=True)
    print(len(all_breaks), 'breaks,', left, 'not found')
    shutil.rmtree(tests, ignore_errors=True)


if __name__ == '__main__':
    main()
