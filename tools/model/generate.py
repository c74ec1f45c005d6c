"""Makes random statements, good ones and broken ones."""
import random
R = random.Random()

def ch(*a):
    return R.choice(a)
VARS = ['?a', '?b', '?c', '?d', '?e', '?x1', '?n']
DENSE = True

def name():
    if DENSE and R.random() < 0.9:
        return ch(':x', ':y', ':z', ':w')
    return ch(':x', ':y', ':z', ':w', ':p', ':q', ':r', ':v', '<t>', ':s1', ':s2')

def pred():
    if DENSE and R.random() < 0.9:
        return ch(':p', ':q', ':v')
    return ch(':p', ':p', ':q', ':q', ':r', ':v', ':v', 'a')

def number():
    return ch('0', '1', '2', '3', '-1', '10', '1.5', '2.0', '-0.5', '0.25', '.5', '007', '3.10', '-2.5', '999999999999999999', '123456789.123456789', '1e', '0.000000001', '7', '5', '+4')

def text():
    return ch('"ab"', '"abc"', '"b"', '""', '"Hello"', '"x y"', '"a\\"b"', '"t\\n"', '"10"', '"ab"@en', '"abc"@en', '"B"@de', '"ab"@EN', '"5"^^<dt>', '"ab"^^<dt>', '"5"^^<whole>', '"1.50"^^<decimal>', '"true"^^<truth>', '"zz"^^<text>', '"abcdefghijklmnopqrstuvwxyz0123456789abcdefghijklmnop"')

def lit():
    if DENSE and R.random() < 0.8:
        return ch('0', '1', '2', '3', '1.5', '2.0', '"ab"', '"abc"', '"ab"@en', '"5"^^<dt>', 'true', '"10"', '0.25')
    return ch(number(), text(), text(), 'true', 'false', number())

def term():
    return ch(name(), name(), lit(), '_:b1', name())

def var():
    return R.choice(VARS)

def subj():
    return ch(name(), name(), '_:b1', name())

def fact():
    s = subj()
    o = s + ' '
    n = R.randint(2, 4) if DENSE else R.randint(1, 3)
    o += ' ; '.join((pred() + ' ' + ' , '.join((term() for _ in range(R.choice([1, 1, 2, 2, 3])))) for _ in range(n)))
    return o

def facts():
    return '{ ' + ' . '.join((fact() for _ in range(R.randint(1, 4)))) + ch('', ' .') + ' }'

def tnode(subject=False):
    return var() if R.random() < (0.85 if DENSE else 0.7) else subj() if subject else term()

def tfacts():
    return '{ ' + ' . '.join((tnode(True) + ' ' + (pred() if R.random() < 0.85 else var()) + ' ' + tnode() for _ in range(R.randint(1, 3)))) + ' }'

def ruleset():
    vs = ['?a', '?b', '?c', '?d'] if R.random() < 0.5 else ['?a', '?b']
    body = []
    used = set()
    for _ in range(R.randint(1, 3)):
        t = [R.choice(vs) if R.random() < 0.8 else subj(), pred() if R.random() < 0.9 else R.choice(vs), R.choice(vs) if R.random() < 0.75 else term()]
        body.append(t)
        used |= {x for x in t if x[0] == '?'}
    used = sorted(used) or [':x']
    head = []
    for _ in range(R.randint(1, 2)):
        head.append([R.choice(used) if R.random() < 0.9 else subj(), ch(':q', ':r', ':p', ':k'), R.choice(used) if R.random() < 0.9 else term()])
    j = lambda l: ' . '.join((' '.join(t) for t in l))
    return 'RULE { %s } => { %s }' % (j(body), j(head))

def path(d=0):

    def one():
        r = R.random()
        if r < (0.75 if DENSE else 0.55) or d > (1 if DENSE else 2):
            return ch(':p', ':q', ':v', ':p', ':q', 'a')
        if r < 0.7:
            k = R.random()
            if k < 0.5:
                return '!' + ch('', '^') + pred()
            return '!(' + '|'.join((ch('', '', '^') + pred() for _ in range(R.randint(1, 3)))) + ')'
        return '(' + path(d + 1) + ')'

    def step():
        return ch('', '', '', '^') + one() + ch('', '', '', '*', '+', '?')

    def steps():
        return '/'.join((step() for _ in range(ch(1, 1, 1, 2, 3))))
    return '|'.join((steps() for _ in range(ch(1, 1, 1, 2))))

def line():
    r = R.random()
    s = tnode(True)
    if r < (0.72 if DENSE else 0.6):
        v = pred()
    elif r < (0.82 if DENSE else 0.7):
        v = var()
    else:
        v = path()
    o = s + ' ' + v + ' ' + tnode()
    if R.random() < 0.15:
        o += ' , ' + tnode()
    if R.random() < 0.15:
        o += ' ; ' + pred() + ' ' + tnode()
    return o

def expr(d=0, agg=False):
    r = R.random()
    if d > (2 if DENSE else 3):
        return ch(var(), var(), term())
    E = lambda: expr(d + 1, agg)
    if agg and r < 0.25:
        f = ch('COUNT', 'SUM', 'MIN', 'MAX', 'AVG', 'SAMPLE', 'GROUPCONCAT')
        di = ch('', '', 'DISTINCT ')
        if f == 'COUNT' and R.random() < 0.4:
            return 'COUNT(%s*)' % di
        if f == 'GROUPCONCAT' and R.random() < 0.5:
            return 'GROUPCONCAT(%s%s ; %s)' % (di, expr(d + 2), ch('","', '""', '" - "'))
        return '%s(%s%s)' % (f, di, expr(d + 2))
    if r < 0.35:
        return ch(var(), var(), var(), term())
    if r < 0.5:
        return '%s %s %s' % (E(), ch('=', '!=', '<', '>', '<=', '>='), E()) if R.random() < 0.5 else '(%s %s %s)' % (E(), ch('=', '!=', '<', '>', '<=', '>='), E())
    if r < 0.62:
        return '(%s %s %s)' % (E(), ch('+', '-', '*', '/'), E())
    if r < 0.68:
        return '(%s)' % ch(' || ', ' && ').join((E() for _ in range(R.randint(2, 3))))
    if r < 0.71:
        return ch('!', '-', '- ', '! ') + E()
    if r < 0.75:
        return '(%s %sIN (%s))' % (E(), ch('', 'NOT '), ', '.join((E() for _ in range(R.randint(0, 3)))))
    if r < 0.78:
        return ch('', 'NOT ') + 'EXISTS ' + group(d + 2)
    if r < 0.81:
        return 'BOUND(%s)' % var()
    f = ch('IF', 'COALESCE', 'CONCAT', 'STRLEN', 'UCASE', 'LCASE', 'STR', 'LANG', 'DATATYPE', 'TONAME', 'ISNAME', 'ISBLANK', 'ISLITERAL', 'ISNUMERIC', 'ABS', 'CEIL', 'FLOOR', 'ROUND', 'STRSTARTS', 'STRENDS', 'CONTAINS', 'STRBEFORE', 'STRAFTER', 'SAMETERM', 'SUBSTR')
    if f == 'IF':
        return 'IF(%s, %s, %s)' % (E(), E(), E())
    if f == 'COALESCE':
        return 'COALESCE(%s)' % ', '.join((E() for _ in range(R.randint(1, 3))))
    if f == 'CONCAT':
        return 'CONCAT(%s)' % ', '.join((ch(E(), text(), 'STR(%s)' % var()) for _ in range(R.randint(0, 3))))
    if f in ('STRSTARTS', 'STRENDS', 'CONTAINS', 'STRBEFORE', 'STRAFTER', 'SAMETERM'):
        return '%s(%s, %s)' % (f, ch(E(), text(), 'STR(%s)' % var()), ch(E(), text(), '"b"'))
    if f == 'SUBSTR':
        return 'SUBSTR(%s, %s, %s)' % (ch(text(), 'STR(%s)' % var(), E()), ch('0', '1', '2', '-1', E()), ch('1', '2', '5', E()))
    return '%s(%s)' % (f, E())
nb = [0]

def newvar():
    nb[0] += 1
    return '?m%d' % nb[0]

def part(d):
    r = R.random()
    if r < (0.6 if DENSE else 0.45) or d > 3:
        return ' . '.join((line() for _ in range(R.choice([1, 1, 2, 3])))) + ch('', ' .', ' ')
    if r < 0.58:
        return 'FILTER (%s)' % expr()
    if r < 0.62:
        return 'FILTER %sEXISTS %s' % (ch('', 'NOT '), group(d + 1))
    if r < 0.72:
        return 'OPTIONAL ' + group(d + 1)
    if r < 0.78:
        return 'MINUS ' + group(d + 1)
    if r < 0.86:
        return ' UNION '.join((group(d + 1) for _ in range(R.randint(1, 3))))
    if r < 0.93:
        return 'BIND (%s AS %s)' % (expr(), ch(newvar(), newvar(), newvar(), var()))
    if R.random() < 0.5:
        return 'VALUES %s { %s }' % (var(), ' '.join((ch(term(), 'UNDEF', name()) for _ in range(R.randint(0, 3)))))
    vs = R.sample(VARS, R.randint(1, 3))
    return 'VALUES (%s) { %s }' % (' '.join(vs), ' '.join(('(%s)' % ' '.join((ch(term(), 'UNDEF', name()) for _ in vs)) for _ in range(R.randint(0, 3)))))

def group(d=0):
    if d > 0 and R.random() < 0.22:
        return '{ ' + select(d + 1) + ' }'
    return '{ ' + (line() + ' . ' if DENSE and R.random() < 0.8 else '') + ' '.join((part(d) for _ in range(R.choice([0, 1, 1, 1, 2, 3] if d < 2 else [0, 0, 1])))) + ' }'

def select(d=0):
    agg = R.random() < 0.35
    o = 'SELECT ' + ch('', '', 'DISTINCT ')
    by = []
    if agg:
        if R.random() < 0.75:
            by = R.sample(VARS, R.randint(1, 2))
        its = [v for v in by if R.random() < 0.8]
        for _ in range(R.randint(0 if its else 1, 2)):
            its.append('(%s AS %s)' % (expr(0, True) if R.random() < 0.5 else ch('COUNT(*)', 'COUNT(%s)' % var(), 'SUM(%s)' % var(), 'MAX(%s)' % var(), 'GROUPCONCAT(%s)' % var(), 'AVG(%s)' % var(), 'COUNT(DISTINCT *)', 'MIN(STR(%s))' % var(), 'COUNT(DISTINCT %s)' % var()), newvar()))
    elif R.random() < 0.3:
        its = ['*']
    else:
        its = R.sample(VARS, R.randint(1, 3))
        if R.random() < 0.4:
            its.append('(%s AS %s)' % (expr(), newvar()))
    o += ' '.join(its) + ' WHERE ' + group(d)
    if by:
        o += ' GROUP BY ' + ' '.join(by)
        if R.random() < 0.2:
            o += ' (%s AS %s)' % (expr(), newvar())
    if agg and R.random() < 0.25:
        o += ' HAVING (%s)' % ch('COUNT(*) > 1', expr(0, True))
    if R.random() < 0.4:
        o += ' ORDER BY ' + ' '.join((ch(R.choice(by) if by else var(), '(%s)' % expr(1, agg), 'DESC(%s)' % ch(var() if not by else R.choice(by), expr(1, agg)), 'ASC(%s)' % expr(2, agg)) for _ in range(R.randint(1, 2))))
    if R.random() < 0.2:
        o += ' LIMIT %d' % R.randint(0, 5)
    if R.random() < 0.15:
        o += ' OFFSET %d' % R.randint(0, 3)
    return o

def stmt():
    nb[0] = 0
    r = R.random()
    if r < 0.15:
        return 'INSERT DATA ' + facts()
    if r < 0.19:
        return 'DELETE DATA ' + facts()
    if r < 0.24:
        return ruleset()
    if r < 0.26:
        return 'UNRULE %d' % R.randint(0, 3)
    if r < 0.27:
        return 'CLEAR'
    if r < 0.33:
        return 'INSERT ' + tfacts() + ' WHERE ' + group(1)
    if r < 0.37:
        return 'DELETE ' + tfacts() + ch('', ' INSERT ' + tfacts()) + ' WHERE ' + group(1)
    if r < 0.42:
        return 'ASK ' + group()
    if r < 0.48:
        return 'CONSTRUCT ' + tfacts() + ' WHERE ' + group(1)
    return select()
FRAG = ['SELECT', 'WHERE', '{', '}', '(', ')', '.', ',', ';', '?a', ':p', 'a', '5', '-3', '"t"', 'FILTER', 'OPTIONAL', 'UNION', 'AS', '*', '/', '|', '^', '!', '+', '-', '=', '<', '&&', '||', 'IN', 'NOT', 'EXISTS', 'COUNT', '(', 'GROUP', 'BY', 'HAVING', 'ORDER', 'LIMIT', 'UNDEF', 'VALUES', 'BIND', '=>', '_:x', '<a', '>', '#', '&', '@', 'DISTINCT', 'x', 'SUM(', '?toolongvariablename', '?', '.5', '<b>', 'DESC', 'BOUND', 'STRLEN', '\n', '\t', '"', "'", '\x80', 'MINUS', 'WHERE {']

def mutate(s):
    k = R.random()
    toks = s.split(' ')
    for _ in range(ch(1, 1, 2)):
        i = R.randrange(len(toks) + 1)
        r = R.random()
        if r < 0.3 and toks:
            del toks[min(i, len(toks) - 1)]
        elif r < 0.6:
            toks.insert(i, R.choice(FRAG))
        elif r < 0.75 and toks:
            toks[min(i, len(toks) - 1)] = R.choice(FRAG)
        elif r < 0.85 and toks:
            j = R.randrange(len(toks))
            toks.insert(i, toks[j])
        elif toks:
            t = toks[min(i, len(toks) - 1)]
            if t:
                q = R.randrange(len(t))
                t = t[:q] + t[q + 1:] if R.random() < 0.5 else t[:q] + R.choice(FRAG) + t[q:]
                toks[min(i, len(toks) - 1)] = t
    if R.random() < 0.2:
        return ''.join(toks)
    if R.random() < 0.1:
        t = ' '.join(toks)
        return t[:R.randrange(len(t) + 1)]
    return ' '.join(toks)
