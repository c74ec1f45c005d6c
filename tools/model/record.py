"""Writes src/test/data anew, with what the model answers."""
import generate as gen, model, edges as edge, os
HERE = os.path.dirname(os.path.abspath(__file__))

def esc(s):
    return ''.join((c if 32 <= ord(c) <= 126 and c != '\\' else '\\x%02x' % ord(c) for c in s))

def jhash(s):
    h = 0
    for c in s:
        h = h * 31 + ord(c) & 4294967295
    return h - 2 ** 32 if h >= 2 ** 31 else h

def main(out, seqs):
    f = open(out, 'w', encoding='latin1')
    n = 0
    for q in seqs:
        m = model.Model()
        f.write('NEW\n')
        for s in q:
            a = m.run(s)
            d = m.dump(a)
            n += 1
            f.write('> ' + esc(s) + '\n')
            f.write('= ' + ' '.join(d[:5]) + ' ' + d[5] + '\n')
            nr = int(d[3])
            rows = d[6:6 + nr]
            if nr <= 12:
                for r in rows:
                    f.write('| ' + r + '\n')
            else:
                f.write('# ' + str(jhash('\n'.join(rows))) + '\n')
            rest = d[6 + nr:]
            f.write('. ' + ' '.join(rest[1:5]) + ' ' + rest[0] + ' ' + str(jhash(rest[5])) + ' ' + str(jhash(rest[6])) + '\n')
    print(out, n)
gen.R.seed(20261118)
seqs = []
for i in range(70):
    q = ['INSERT DATA ' + gen.facts() for _ in range(2)]
    for _ in range(13):
        s = gen.stmt()
        if i % 3 == 0 and gen.R.random() < 0.7:
            s = gen.mutate(s)
        q.append(s[:4000])
    seqs.append(q)
main(HERE + '/../../src/test/data/statements.txt', seqs)
main(HERE + '/../../src/test/data/edges.txt', [q for q in edge.seqs])
