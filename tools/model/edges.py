"""Compares class and model on runs at the edges that the document names."""
import subprocess, model, time, sys
OUT = "/tmp/triplestore-model"
seqs = []

def S(*a):
    seqs.append(list(a))
V = lambda n: ' '.join(('?v%d' % i for i in range(n)))
for n in (24, 25, 26):
    S('SELECT * WHERE { ' + ' . '.join(('?v%d :p ?w%d' % (i, i) for i in range(n // 2))) + (' . ?z :p 1' if n % 2 else '') + ' }')
    S('SELECT ' + V(13) + ' WHERE {}', 'SELECT ' + V(12) + ' WHERE {}', 'SELECT * WHERE { VALUES (%s) { } }' % V(8), 'SELECT * WHERE { VALUES (%s) { } }' % V(9), 'SELECT * WHERE { VALUES (%s ?v0) { } }' % V(8))
for n in (198, 199, 200, 201, 202):
    S('ASK { FILTER (' + ' + '.join(['1'] * ((n + 1) // 2)) + (' + - 1' if n % 2 == 0 else '') + ') }')
    S('ASK { FILTER (' + ' || '.join(['1'] * ((n + 1) // 2)) + (' || - 1' if n % 2 == 0 else '') + ') }')
    S('ASK { FILTER (1 IN (' + ','.join(['1'] * (n - 2)) + ')) }')
    S('ASK { FILTER (1 IN (' + ','.join(['1'] * (n - 3)) + ')) FILTER EXISTS { } }')
    S('ASK { FILTER (1 IN (' + ','.join(['1'] * (n - 4)) + ')) FILTER (BOUND(?a)) }')
    S('SELECT (1 IN (' + ','.join(['1'] * (n - 4)) + ') AS ?b) (COUNT(?b) AS ?c) WHERE { }')
    S('SELECT (1 IN (' + ','.join(['1'] * (n - 3)) + ') AS ?b) WHERE { } GROUP BY ?z ORDER BY ?b ?z DESC(?z)')
for n in (39, 40, 41):
    S('ASK { ' + ' '.join(['{ }'] * (n - 1)) + ' }')
    S('ASK ' + '{' * n + '}' * n)
for n in (7, 8, 9):
    S('ASK ' + '{' * n + '}' * n)
    S('ASK ' + '{FILTER EXISTS' * (n - 1) + '{}' + '}' * (n - 1))
    S('SELECT (EXISTS ' + '{' * n + '}' * n + ' AS ?x) WHERE {}')
    S('SELECT ?a WHERE {' + 'SELECT ?a WHERE {' * (n - 1) + '}' * n)
    S('ASK {FILTER' + '(' * n + '1' + ')' * n + '}')
    S('ASK {FILTER(' + 'ABS(' * (n - 1) + '1' + ')' * n + '}')
    S('ASK {FILTER(' + '1 IN(' * (n - 1) + '1' + ')' * n + '}')
    S('ASK {FILTER(' + '(' * (n - 2) + 'BOUND(?a)' + ')' * (n - 2) + ')}')
    S('SELECT (SUM(' + '(' * (n - 2) + '1' + ')' * (n - 1) + ' AS ?x) WHERE {} HAVING(' + '(' * (n - 1) + '1' + ')' * n + ' ORDER BY ' + '(' * n + '1' + ')' * n)
    S('ASK {FILTER(' + '(' * 6 + 'EXISTS { BIND(' + '(' * (n - 1) + '1' + ')' * (n - 1) + ' AS ?x) }' + ')' * 7 + '}')
for n in (3, 4, 5):
    S('ASK { FILTER (' + '!' * n + '1) }', 'ASK { FILTER (' + '- ' * n + '1) }', 'ASK { FILTER (!- ' * 1 + '! ' * (n - 2) + '(!!!!1)) }', 'ASK { FILTER (1 - ' + '! ' * n + '1) }')
for n in (6, 7, 8):
    S('ASK { ' + ' . '.join(('?a :p %d' % i for i in range(n))) + ' }', 'ASK { ' + ' . '.join(('?a :p %d' % i for i in range(n))) + ' . ?a (:p) 1, 2,3 }', 'ASK { ?a :p ' + ','.join(('%d' % i for i in range(n))) + ' ?b :p 3 }')
for n in (39, 40, 41):
    S('ASK { ' + ' '.join(('?a :p %d' % i for i in range(n))) + ' }', 'ASK { ' + ' . '.join(('?a ^:p %d' % i for i in range(n))) + ' }')
for n in (18, 19, 20, 21, 22):
    S('ASK { ?a ' + '/'.join([':p'] * ((n + 1) // 2)) + ('*' if n % 2 == 0 else '') + ' ?b }')
    S('ASK { ?a !(' + '|'.join([':p'] * (n // 2)) + ('|^' if n % 2 else '') + (':p' if n % 2 else '') + ') ?b }')
    S('ASK { ?a ' + '^' + '|'.join([':p'] * (n // 2)) + ' ?b }')
for n in (5, 6, 7):
    S('ASK { ?a ' + '(' * n + ':p' + ')' * n + ' ?b }', 'ASK { ?a ' + '(' * (n - 1) + '!(:p)' + ')' * (n - 1) + ' ?b }', 'ASK { ?a ' + '(' * n + ':p' + ')*' * n + ' ?b }')
for n in (39, 40, 41):
    S('ASK { VALUES ?a { ' + ' '.join(['UNDEF'] * n) + ' } }', 'ASK { VALUES (?a) { ' + ' '.join(['(1)'] * n) + ' } }', 'ASK { VALUES ?a {1 2} VALUES (?a ?b) { ' + ' '.join(['(UNDEF UNDEF)'] * (n // 2)) + ' } }')
for n in (5, 6, 7):
    S('SELECT ?a WHERE { } ORDER BY ' + ' '.join(['?a'] * n), 'SELECT ?a WHERE { } ORDER BY ' + ' '.join(['(1)'] * n), 'SELECT ?a WHERE { } ORDER BY ' + ' '.join(['DESC(1)'] * n))
for n in (11, 12, 13):
    S('SELECT ' + V(n) + ' WHERE { }', 'SELECT ?v1 WHERE { } GROUP BY ' + V(n), 'SELECT ' + ' '.join(('(1 AS ?v%d)' % i for i in range(n))) + ' WHERE { }')
for n in (1, 2, 3, 4, 5):
    S('RULE { ' + ' . '.join(('?a%d :p ?b%d' % (i, i) for i in range(n))) + ' } => { ?a0 :q ?b0 }', 'RULE { ?a :p ?b } => { ' + ' . '.join(('?a :q%d ?b' % i for i in range(n))) + ' }', 'RULE { ?a :p ' + ','.join(map(str, range(n))) + ' . } => { ?a :q 1 }')
S('RULE { ?a :p ?b } => { ?c :q ?b }', 'RULE { ?a ?p ?b } => { ?b ?p ?a }', 'INSERT DATA { :a :p 1 ; :q :b . _:x :p :y }', 'RULE { :a :p 1 } => { :k :k :k }', 'UNRULE 0', 'UNRULE 5', 'UNRULE 1', 'UNRULE 1')
S(*['RULE { ?a :p ?b } => { ?a :q%d ?b }' % i for i in range(17)], 'INSERT DATA { :a :p :b }', 'UNRULE 16', 'UNRULE 15', 'UNRULE 0')

def nums(a, b):
    return ','.join(map(str, range(a, b)))
S(*['INSERT DATA { :a :p ' + nums(i * 100, i * 100 + 100) + ' }' for i in range(7)] + ['INSERT DATA { :a :p ' + nums(700, 798) + ' }', 'INSERT DATA { :a :p 798 }', 'INSERT DATA { :b :p 797 }', 'INSERT DATA { :a :p :a }', 'RULE { ?a :zz ?b } => { ?a :p ?b }', 'INSERT { ?a :p ?c } WHERE { ?a :p ?b BIND (?b + 1 AS ?c) }', 'INSERT { ?a :p ?c } WHERE { ?a :p ?b BIND (?b + 1 AS ?c) FILTER (?b < 797) }', 'CLEAR', 'INSERT DATA { :a :p 5000 }', 'INSERT DATA { :a :p 3 }'])
big = ['INSERT DATA { ' + ' . '.join((':s%d :p %s' % (i, nums(0, 10)) for i in range(10 * k, 10 * k + 10))) + ' }' for k in range(4)]
S(*big, 'INSERT { ?a :q ?b } WHERE { ?a :p 0 . ?b :p 0 }', 'SELECT (COUNT(*) AS ?n) WHERE { ?a ?p ?b }', 'INSERT DATA { :zz :p 1 }', 'DELETE { ?a :q ?b } INSERT { ?b :r ?a . ?b :r2 ?a } WHERE { ?a :q ?b }', 'DELETE { ?a :q ?b } INSERT { ?b :r ?a } WHERE { ?a :q ?b }', 'DELETE { ?a :p 3 } WHERE { ?a :p 2 }')
S(*big, 'RULE { ?a :p ?x . ?b :p ?x } => { ?a :k ?b }', 'RULE { ?a :p ?x . ?b :p 1 } => { ?a :k ?b }', 'RULE { ?a :p 0 . ?b :p 1 } => { ?a :k ?b }', 'UNRULE 0', 'RULE { ?a :p 0 . ?b :p 0 } => { ?a :k :b }', 'DELETE DATA { :s1 :p 0 }', 'DELETE { ?a :p 0 } INSERT { ?a :p 0 . ?a :p 100 . ?a :zz :zz } WHERE { ?a :p 1 }', 'INSERT { ?a :k ?b } WHERE { ?a :p 0 . ?b :p 0 . :s1 :p 1 }')
for n in (99, 100, 101):
    S('INSERT DATA { :a :p ' + nums(0, n) + ' }', 'RULE { ?a :p ?b . ?c :p ?d } => { ?a :q ?c }', 'INSERT DATA { :a :p 1000 }', 'DELETE DATA { :a :p 0 }', 'INSERT DATA { :a :p 1000 }', 'INSERT DATA { :a :p 0 }', 'SELECT (COUNT(*) AS ?n) WHERE { ?a ?b ?c }')
for n in (98, 99, 100):
    S('RULE { ?a :p ?b . ?c :p ?d } => { ?a :q ?c }', 'INSERT DATA { :a :p ' + nums(0, 50) + ' }', 'INSERT DATA { :a :p ' + nums(50, n) + ' }', 'INSERT DATA { :a :p 500 }', 'INSERT DATA { :a :p 501 }', 'DELETE { :a :p 0 } INSERT { :a :p 600 . :a :p 601 } WHERE { }', 'DELETE { :a :p 0 } INSERT { :a :p 600 } WHERE { }', 'DELETE { :a :p 0 } WHERE { }')
S(*big, 'SELECT * WHERE { ?a :p ?b . ?c :p ?d }', 'ASK { ?a :p ?b . ?c :p 1 FILTER (?b = ?d) }', 'ASK { ?a :p ?b }', 'ASK { ?a :p ?b . ?c :p ?d . ?e :p ?f }', 'ASK { }', 'ASK { ?a :p ?b }', 'ASK { ?a :p ?b }', 'ASK {}', 'INSERT DATA { :new :p :q }', 'RULE { ?a :p ?b } => { ?a :k ?b }')
S(*big, 'SELECT (?b + ?n AS ?k) WHERE { ?a :p ?b BIND (STRLEN(STR(?a)) AS ?n) }', 'SELECT (CONCAT(STR(?a), STR(?b), "abcdefghijklmnopqrstuvwxyzabcdefghijklmnopqrstuv") AS ?k) WHERE { ?a :p ?b }', 'SELECT (CONCAT(STR(?a), STR(?b), "abcdefghijklmnopqrstuvwxyzabcdefghijklmnopqrstuv") AS ?k) WHERE { ?a :p ?b } LIMIT 10')
S(*big, 'SELECT (CONCAT(STR(?a), STR(?b), "abcdefghijklmnopqrstuvwxyzabcdefg") AS ?k) WHERE { ?a :p ?b } ORDER BY DESC(?k) LIMIT 5 OFFSET 3', 'SELECT (COUNT(DISTINCT CONCAT(STR(?a), STR(?b))) AS ?k) (GROUPCONCAT(DISTINCT ?b) AS ?g) (MIN(CONCAT(STR(?a), STR(?b))) AS ?mi) WHERE { ?a :p ?b }')
S(*[b.replace('INSERT DATA', 'INSERT DATA') for b in big], *['ASK { ?a :p ?b . ?a :p 1 . ?c :p 2 }' for _ in range(8)])
for k in (996, 1000, 1001):
    S('INSERT DATA { :a :p ' + nums(0, 40) + ' }', 'SELECT (?a * 1000 + ?b AS ?c) WHERE { :a :p ?a , ?b } LIMIT %d' % k, 'SELECT (COUNT(*) AS ?n) WHERE { SELECT (?a * 1000 + ?b AS ?c) WHERE { :a :p ?a , ?b FILTER (?b < 25) } }', 'SELECT (COUNT(*) AS ?n) WHERE { SELECT (?a * 1000 + ?b AS ?c) WHERE { :a :p ?a , ?b FILTER (?b < 26) } }')
S('INSERT DATA { :a :p ' + nums(0, 40) + ' }', 'SELECT ?c WHERE { :a :p ?a , ?b BIND (?a * 1000 + ?b + 1000 AS ?c) } LIMIT 3', 'SELECT ?c WHERE { :a :p ?a , ?b FILTER (?a < 25) BIND (?a * 1000 + ?b + 1000 AS ?c) } LIMIT 3', 'SELECT ?a WHERE { :a :p ?a , ?b } ORDER BY DESC(?a * 1000 + ?b) LIMIT 3')
N = ['999999999999999999', '-999999999999999999', '0.000000001', '-0.000000001', '999999999.999999999', '-999999999.999999999', '1', '3', '7', '0.3', '-0.7', '500000000000000000.0', '0.5', '-0.5', '1.5', '-1.5', '2.5', '-2.5', '0', '0.0', '123456789.987654321', '1000000000', '0.000000002', '333333333333333333.0', '999999999999999999.0', '0.1', '0.9']
tests = []
for a in N:
    q = 'SELECT ?b (?a + ?b AS ?s) (?a - ?b AS ?d) (?a * ?b AS ?m) (?a / ?b AS ?q) (?a < ?b AS ?l) (?a = ?b AS ?e) WHERE { VALUES ?a { %s } VALUES ?b { %s } } ' % (a, ' '.join(('"%s"^^<%s>' % (x, 'decimal' if '.' in x else 'whole') for x in N)))
    tests.append(q)
S(*tests)
S(*['SELECT (SUM(?b) AS ?s) (AVG(?b) AS ?a) (MIN(?b) AS ?mi) (MAX(?b) AS ?ma) (COUNT(DISTINCT ?b) AS ?c) (SUM(DISTINCT ?b) AS ?sd) WHERE { VALUES ?b { %s } }' % ' '.join(('"%s"^^<%s>' % (x, 'decimal' if '.' in x else 'whole') for x in N[i:j])) for i in range(0, len(N), 2) for j in range(i, len(N) + 1, 3)])
S(*['SELECT ?b (ABS(?b) AS ?s) (CEIL(?b) AS ?a) (FLOOR(?b) AS ?mi) (ROUND(?b) AS ?ma) (- ?b AS ?c) (!?b AS ?sd) (STR(?b) AS ?st) (STRLEN(STR(?b)) AS ?sl) WHERE { VALUES ?b { %s } }' % ' '.join(('"%s"^^<%s>' % (x, 'decimal' if '.' in x else 'whole') for x in N))])
lexs = ['0000', '00012.500', '.5', '-.5', '+.5', '5.', '1.5.5', '1234567890123456789', '0001234567890123456789.5', '123456789012345678.5', '123456789012345678.0', '123456789012345678.05', '0.1234567891', '0.123456789000', '0.1234567890001', '1e5', '--5', '-', '+5', '- 5', '1-1', '1 -1', '"a"@en', '"a"@enabcdefgh', '"a"@', '"a"@1', '"a"^^<x>', '"a"^^:x', '"a"^^<whole>', '"12"^^<whole>', '""^^<whole>', '"+"^^<whole>', '"-012"^^<whole>', '"1.0"^^<whole>', '"1"^^<decimal>', '".50"^^<decimal>', '"-.5"^^<decimal>', '"5."^^<decimal>', '"true"^^<truth>', '"tru"^^<truth>', '"x"^^<text>', '"x"^^<tagged>', '"x"^^<', '"x"^', '"x"^^', '"\\a"', '"\\\\"', '"\\"', '"a\nb"', '"a\\nb\\t\\r"', '<a>', '<>', '<a', '<' + 'a' * 40 + '>', '<' + 'a' * 41 + '>', ':' + 'a' * 40, ':' + 'a' * 41, '_:' + 'b' * 40, '_:' + 'b' * 41, '_:', '_x', ':', '?' + 'a' * 12, '?' + 'a' * 13, 'true', 'truefalse', 'false', 'trueX', 'true1', '"' + 'a' * 64 + '"', '"' + 'a' * 65 + '"', '"' + '\\n' * 64 + '"', '"' + '\\n' * 65 + '"', '# x\n5', '5# x', '5#', '~', 'é', '"é"', '&', '&&', '999999999999999999', '9999999999999999990', '0.9999999999', '99999999999.99999999', '999999999.9999999999', '"1234567890123456789"^^<whole>', '"0.1234567891"^^<decimal>', '"a"@EN', '"a"@En-x', '<a b>', '<a#b>', '<a`b>', '<a{b>']
for l in lexs:
    S('ASK { VALUES ?a { %s } }' % l, 'SELECT ?a WHERE { VALUES ?a { %s } }' % l, 'ASK { FILTER ( %s ) }' % l, 'ASK { FILTER ( ?x %s ) }' % l, l, 'INSERT DATA { :a a %s }' % l, 'INSERT DATA { :a :p %s }' % l, 'SELECT * WHERE { ?x :p %s}' % l)
S('INSERT DATA { ' + ' . '.join((':n%d :p :n%d' % (i, i + 1) for i in range(9))) + ' }', 'SELECT (COUNT(*) AS ?n) WHERE { ?a :p* ?b }', 'SELECT (COUNT(*) AS ?n) WHERE { ?a ((((:p*)*)*)*)* ?b }', 'SELECT (COUNT(*) AS ?n) WHERE { :n0 ((((((:p)+)+)+)+)+)+ ?b }', 'SELECT (COUNT(*) AS ?n) WHERE { :n0 (:p/:p)* ?b }', 'SELECT (COUNT(*) AS ?n) WHERE { :n0 (:p|^:p)/(:p|^:p)/(:p|^:p)/(:p|^:p) ?b }', 'SELECT ?b WHERE { :n0 ((((((:p?/:p)?/:p)?/:p)?/:p)?/:p)?/:p)? ?b }', 'SELECT (COUNT(*) AS ?n) WHERE { ?a ((((((:p/:p)*/:p)*/:p)*/:p)*/:p)*/:p)* ?b }', 'SELECT * WHERE { :new :p* ?b }', 'SELECT * WHERE { ?a :p* :new }', 'ASK { :new :p* :new }', 'ASK { :new :p* :new2 }', 'ASK { :new :p+ :new }', 'ASK { :new :p? :new }', 'SELECT * WHERE { ?x :p* ?x } LIMIT 3', 'SELECT * WHERE { VALUES ?x { 5 :n1 :qq } ?x :p* ?y } LIMIT 3', 'SELECT * WHERE { VALUES (?x ?y) { (5 5) (:n1 :n3) (:qq :n1) (:n2 :qq) } ?x :p* ?y } LIMIT 3')
S('INSERT DATA { :a :p :b , :c . :b :q :d . :c :q :d . :d :p :e . :e :p :a . :a :r :a }', 'SELECT * WHERE { ?x :p/:q ?y }', 'SELECT * WHERE { ?x !(:p|^:q) ?y }', 'SELECT * WHERE { ?x !:p ?y }', 'SELECT * WHERE { ?x !^:p ?y }', 'SELECT * WHERE { ?x ^(!(:p|^:q)) ?y }', 'SELECT * WHERE { ?x (:p|:q)+ ?y }', 'SELECT * WHERE { ?x (:p|:q)/(:p|:q|^:p) ?y }', 'SELECT * WHERE { ?x :p?/:q? ?y }', 'SELECT * WHERE { :a (:p/:q/:p/:p)* ?y }', 'SELECT * WHERE { ?y (:p/:q)/:p :e }', 'SELECT * WHERE { :a :p ?y ; (:p) ?z }', 'SELECT ?x WHERE { ?x (:p|:q)* ?x }', 'SELECT ?x WHERE { ?x (:p|:r|:p) ?x }')
S('INSERT DATA { :a :p 1,2,3 }', *['ASK { ?x :p ?y } LIMIT 1', 'SELECT ?y WHERE { ?x :p ?y } LIMIT 99999999999999', 'SELECT ?y WHERE { ?x :p ?y } OFFSET 99999999999999', 'SELECT ?y WHERE { ?x :p ?y } LIMIT -1', 'SELECT ?y WHERE { ?x :p ?y } LIMIT 0', 'SELECT ?y WHERE { ?x :p ?y } LIMIT -0', 'SELECT ?y WHERE { ?x :p ?y } LIMIT 1.0', 'SELECT ?y WHERE { ?x :p ?y } OFFSET 1 LIMIT 1', 'SELECT ?y WHERE { ?x :p ?y } LIMIT 1 OFFSET 1', 'UNRULE -1', 'UNRULE', 'UNRULE 0', 'CLEAR 1', '', '  ', '# only', 'CLEAR # x', '&', 'SELECT ?a ?a WHERE { } &', 'SELECT ?a ?a WHERE { } x', 'SELECT ?a ?a WHERE { } LIMIT 1 LIMIT 2', 'SELECT ?a ?a WHERE { } LIMIT x', 'ASK { BIND (1 AS ?a) BIND (2 AS ?a', 'ASK { BIND (1 AS ?a) BIND (2 AS ?a &', 'ASK { BIND (1 AS ?a) BIND (2 AS ?a }', 'ASK { VALUES (?a ?a', 'ASK { VALUES (?a ?a &', 'ASK { VALUES (?a ?a 5'])

def go():
    inp = []
    for q in seqs:
        inp.append('NEW')
        for s in q:
            inp.append(s.encode('latin1').hex())
    r = subprocess.run(['java', '-cp', OUT, 'Driver'], input='\n'.join(inp) + '\n', capture_output=True, text=True, encoding='latin1')
    if r.stderr:
        print('STDERR', r.stderr[:2000])
    blocks = r.stdout.split('NEW\n')[1:]
    n = bad = 0
    stat = {}
    for q, b in zip(seqs, blocks):
        m = model.Model()
        outs = b.split('--\n')
        for k, s in enumerate(q):
            assert len(s) <= 4000, (len(s), s[:80])
            t0 = time.time()
            a = m.run(s)
            want = m.dump(a)
            got = outs[k].split('\n')[:-1]
            n += 1
            if time.time() - t0 > 5:
                print('slow', time.time() - t0, s[:100], flush=True)
            stat[a if a < 0 else 'ok'] = stat.get(a if a < 0 else 'ok', 0) + 1
            if want != got:
                bad += 1
                print('STATEMENT', repr(s)[:400], 'after', len(q[:k]), repr(q[:k])[:200])
                for x, y in zip(want, got):
                    if x != y:
                        print('  want', x[:300])
                        print('  got ', y[:300])
                break
    print(n, 'bad', bad, stat)
if __name__ == '__main__':
    go()
