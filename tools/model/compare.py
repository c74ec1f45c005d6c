"""Compares class and model on random runs: compare.py SEED RUNS BROKEN (0 .. 1)."""
import sys, subprocess, generate as gen, model, time, os
OUT = "/tmp/triplestore-model"

def main(seed, count, mut, per=14):
    gen.R.seed(seed)
    seqs = []
    for i in range(count):
        q = ['INSERT DATA ' + gen.facts() for _ in range(2)] if gen.R.random() < 0.9 else []
        for _ in range(per):
            s = gen.stmt()
            if gen.R.random() < mut:
                s = gen.mutate(s)
            q.append(s[:4000])
        seqs.append(q)
    inp = []
    for q in seqs:
        inp.append('NEW')
        for s in q:
            inp.append(s.encode('latin1').hex())
    r = subprocess.run(['java', '-cp', OUT, 'Driver'], input='\n'.join(inp) + '\n', capture_output=True, text=True, encoding='latin1')
    if r.stderr:
        print('STDERR', r.stderr[:2000])
    blocks = r.stdout.split('NEW\n')[1:]
    bad = 0
    n = 0
    stat = {}
    for q, b in zip(seqs, blocks):
        m = model.Model()
        outs = b.split('--\n')
        for k, s in enumerate(q):
            t0 = time.time()
            a = m.run(s)
            want = m.dump(a)
            got = outs[k].split('\n')[:-1]
            stat[a if a < 0 else 'ok'] = stat.get(a if a < 0 else 'ok', 0) + 1
            n += 1
            if want != got:
                bad += 1
                print('SEED', seed, 'STATEMENT', repr(s))
                for pre in q[:k]:
                    print('   after', repr(pre))
                for x, y in zip(want, got):
                    if x != y:
                        print('  want', x[:300])
                        print('  got ', y[:300])
                if len(want) != len(got):
                    print('len', len(want), len(got))
                break
        if bad > 3:
            break
    print('seed', seed, 'statements', n, 'bad', bad, stat)
    return bad
if __name__ == '__main__':
    a = sys.argv
    main(int(a[1]), int(a[2]), float(a[3]))
