"""The document in its plainest form: what the class is compared with."""
import re
from fractions import Fraction
from itertools import permutations
import sys
sys.setrecursionlimit(100000)

class Fault(Exception):

    def __init__(s, code, place):
        s.code = code
        s.place = place

class Over(Exception):
    pass

class NoRoom(Exception):
    pass
M = 10 ** 18
WB = '[A-Za-z0-9_]'
NB = ''.join((chr(c) for c in range(33, 127) if chr(c) not in '<>"\\^{|}`'))
NBRE = '[' + re.escape(NB) + ']'

def okey(t):
    k = t[0]
    if k in (3, 4):
        return (3, Fraction(t[1], 10 ** (t[2] if k == 4 else 0)), k)
    return t

def num(t):
    return Fraction(t[1], 10 ** (t[2] if t[0] == 4 else 0))

def mkdec(f):
    x = abs(f) * 10 ** 9
    n = x.numerator // x.denominator
    r = x - n
    if r >= Fraction(1, 2):
        n += 1
    sc = 9
    while sc > 0 and n % 10 == 0:
        n //= 10
        sc -= 1
    if n >= M:
        return None
    return (4, -n if f < 0 else n, sc)

def mkwhole(n):
    return (3, n) if abs(n) < M else None

def parse_number(st):
    m = re.fullmatch('([+-]?)([0-9]+)', st)
    if m:
        v = int(m[2])
        if v < M:
            return (3, -v if m[1] == '-' else v)
        return None
    m = re.fullmatch('([+-]?)([0-9]*)\\.([0-9]+)', st)
    if m:
        fr = m[3].rstrip('0')
        if len(fr) > 9:
            return None
        v = int((m[2] or '') + fr or '0')
        if v >= M:
            return None
        return (4, -v if m[1] == '-' else v, len(fr))
    return None

def longest_number(s, i, limit=None):
    j = i
    if j < len(s) and s[j] in '+-':
        j += 1
    while j < len(s) and s[j].isdigit() and s[j].isascii():
        j += 1
    if j < len(s) and s[j] == '.':
        j += 1
        while j < len(s) and s[j].isascii() and s[j].isdigit():
            j += 1
    for e in range(j, i, -1):
        t = parse_number(s[i:e])
        if t:
            return (e, t)
    return None

def writenum(t):
    if t[0] == 3:
        return str(t[1])
    n, sc = (abs(t[1]), t[2])
    d = str(n).rjust(sc + 1, '0')
    ip = d[:len(d) - sc]
    fp = d[len(d) - sc:] or '0'
    return ('-' if t[1] < 0 else '') + ip + '.' + fp

def esc(b):
    return b.replace('\\', '\\\\').replace('"', '\\"').replace('\n', '\\n').replace('\r', '\\r').replace('\t', '\\t')

def write(t):
    k = t[0]
    if k == 1:
        return '_:' + t[1]
    if k == 2:
        return '<' + t[1] + '>'
    if k in (3, 4):
        return writenum(t)
    if k == 5:
        return '"' + esc(t[1]) + '"'
    if k == 6:
        return '"' + esc(t[1]) + '"@' + t[2]
    if k == 7:
        return '"' + esc(t[1]) + '"^^<' + t[2] + '>'
    return 'true' if t[1] else 'false'

class Tok:

    def __init__(s, kind, val, place, end):
        s.kind = kind
        s.val = val
        s.place = place
        s.end = end

    def __repr__(s):
        return '%s %r @%d' % (s.kind, s.val, s.place)
TWO = ['!=', '<=', '>=', '&&', '||', '=>']
ONE = '{}().,;*/|!+-=<>^?'

def lex(s):
    out = []
    i = 0
    prev = None
    while True:
        while i < len(s):
            if s[i] in ' \t\n\r':
                i += 1
            elif s[i] == '#':
                while i < len(s) and s[i] != '\n':
                    i += 1
            else:
                break
        if i >= len(s):
            out.append(Tok('END', None, len(s), len(s)))
            return out
        t = lex1(s, i, prev)
        if t is None:
            out.append(Tok('BAD', None, i, i))
            return out
        out.append(t)
        prev = t
        i = t.end

def lex1(s, i, prev):
    c = []

    def T(v, e):
        c.append((e, 'TERM', v))
    m = re.compile('_:(%s{1,40})' % WB).match(s, i)
    if m:
        T((1, m[1]), m.end())
    m = re.compile('<(%s{1,40})>' % NBRE).match(s, i)
    if m:
        T((2, m[1]), m.end())
    m = re.compile(':(%s{1,40})' % WB).match(s, i)
    if m:
        T((2, m[1]), m.end())
    m = re.compile('\\?(%s{1,12})' % WB).match(s, i)
    if m:
        c.append((m.end(), 'VAR', m[1]))
    m = re.compile('[A-Za-z]+').match(s, i)
    if m:
        if m[0] == 'true':
            T((8, 1), m.end())
        elif m[0] == 'false':
            T((8, 0), m.end())
        else:
            c.append((m.end(), 'WORD', m[0]))
    ok = True
    if s[i] in '+-':
        ok = not (prev is not None and (prev.kind in ('TERM', 'VAR') or (prev.kind == 'SIGN' and prev.val == ')')))
    if ok:
        r = longest_number(s, i)
        if r:
            T(r[1], r[0])
    if s[i] == '"':
        j = i + 1
        b = ''
        good = None
        while j < len(s):
            if s[j] == '"':
                good = j + 1
                break
            if s[j] == '\\':
                if j + 1 < len(s) and s[j + 1] in '"\\nrt':
                    b += {'n': '\n', 'r': '\r', 't': '\t'}.get(s[j + 1], s[j + 1])
                    j += 2
                else:
                    break
            elif 32 <= ord(s[j]) <= 126:
                b += s[j]
                j += 1
            else:
                break
        if good and len(b) <= 64:
            T((5, b), good)
            m = re.compile('@([A-Za-z]{1,8})').match(s, good)
            if m:
                T((6, b, m[1].lower()), m.end())
            m = re.compile('\\^\\^<(%s{1,40})>' % NBRE).match(s, good)
            if m:
                ty = m[1]
                if ty == 'text':
                    T((5, b), m.end())
                elif ty in ('whole', 'decimal'):
                    t = parse_number(b)
                    if t and t[0] == (3 if ty == 'whole' else 4):
                        T(t, m.end())
                elif ty == 'truth':
                    if b in ('true', 'false'):
                        T((8, 1 if b == 'true' else 0), m.end())
                else:
                    T((7, b, ty), m.end())
    if s[i:i + 2] in TWO:
        c.append((i + 2, 'SIGN', s[i:i + 2]))
    elif s[i] in ONE:
        c.append((i + 1, 'SIGN', s[i]))
    if not c:
        return None
    e, k, v = max(c, key=lambda x: x[0])
    return Tok(k, v, i, e)
FUN = {'IF': (3, 3), 'COALESCE': (1, 8), 'CONCAT': (0, 8), 'SUBSTR': (3, 3)}
for w in 'STRLEN UCASE LCASE STR LANG DATATYPE TONAME ISNAME ISBLANK ISLITERAL ISNUMERIC ABS CEIL FLOOR ROUND'.split():
    FUN[w] = (1, 1)
for w in 'STRSTARTS STRENDS CONTAINS STRBEFORE STRAFTER SAMETERM'.split():
    FUN[w] = (2, 2)
AGG = 'COUNT SUM MIN MAX AVG SAMPLE GROUPCONCAT'.split()

class G:
    pass

class Parser:

    def __init__(p, s):
        p.s = s
        p.toks = lex(s)
        p.i = -1
        p.vars = []
        p.nodes = 0
        p.groups = 0
        p.lines = 0
        p.given = 0
        p.npat = 0
        p.blocks = []
        p.take()

    @property
    def t(p):
        return p.toks[p.i]

    def take(p):
        p.i += 1
        if p.t.kind == 'BAD':
            raise Fault(1, p.t.place)

    def fail(p, c, place=None):
        raise Fault(c, p.t.place if place is None else place)

    def sign(p, c):
        return p.t.kind == 'SIGN' and p.t.val == c

    def word(p, *w):
        return p.t.kind == 'WORD' and p.t.val in w

    def xs(p, c):
        if not p.sign(c):
            p.fail(2)
        p.take()

    def xw(p, c):
        if not p.word(c):
            p.fail(2)
        p.take()

    def var(p):
        if p.t.kind != 'VAR':
            p.fail(2)
        n = p.t.val
        if n not in p.vars:
            if len(p.vars) >= 24:
                p.fail(3)
            p.vars.append(n)
        return n

    def statement(p):
        s = G()
        if p.word('SELECT'):
            s.kind = 'SELECT'
            s.sel = p.select(0)
        elif p.word('ASK'):
            s.kind = 'ASK'
            p.take()
            s.group = p.group(1)
        elif p.word('CONSTRUCT'):
            s.kind = 'CONSTRUCT'
            p.take()
            s.facts = p.facts('T')
            p.xw('WHERE')
            s.group = p.group(1)
        elif p.word('INSERT', 'DELETE'):
            s.kind = 'CHANGE'
            s.dele = []
            s.ins = []
            s.group = None
            s.data = False
            w = p.t.val
            p.take()
            if p.word('DATA'):
                p.take()
                f = p.facts('D')
                s.data = True
                if w == 'INSERT':
                    s.ins = f
                else:
                    s.dele = f
            else:
                f = p.facts('T')
                if w == 'INSERT':
                    s.ins = f
                else:
                    s.dele = f
                    if p.word('INSERT'):
                        p.take()
                        s.ins = p.facts('T')
                p.xw('WHERE')
                s.group = p.group(1)
        elif p.word('RULE'):
            s.kind = 'RULE'
            p.take()
            s.body = p.facts('B')
            p.xs('=>')
            s.head = p.facts('H')
        elif p.word('UNRULE'):
            s.kind = 'UNRULE'
            p.take()
            s.n = p.whole()
        elif p.word('CLEAR'):
            s.kind = 'CLEAR'
            p.take()
        else:
            p.fail(2)
        if p.t.kind != 'END':
            p.fail(2)
        return s

    def whole(p):
        if p.t.kind != 'TERM' or p.t.val[0] != 3 or p.t.val[1] < 0:
            p.fail(2)
        v = p.t.val[1]
        p.take()
        return v

    def facts(p, mode):
        p.xs('{')
        out = []

        def node(subj=False):
            if p.t.kind == 'TERM':
                v = p.t.val
                if subj and v[0] > 2:
                    p.fail(4)
                p.take()
                return v
            if p.t.kind == 'VAR':
                if mode == 'D':
                    p.fail(4)
                if mode == 'H' and p.t.val not in p.vars:
                    p.fail(4)
                v = p.var()
                p.take()
                return '?' + v
            p.fail(2)
        while True:
            s = node(True)
            while True:
                if p.t.kind == 'VAR':
                    v = node()
                else:
                    v = p.name()
                while True:
                    o = node()
                    out.append((s, v, o))
                    if p.sign(','):
                        p.take()
                        continue
                    break
                if p.sign(';'):
                    p.take()
                    continue
                break
            if p.sign('.'):
                p.take()
                if p.sign('}'):
                    break
                continue
            break
        if p.sign('}') and (mode == 'B' and len(out) > 4 or (mode == 'H' and len(out) > 3)):
            p.fail(4)
        p.xs('}')
        return out

    def isname(p):
        return p.word('a') or (p.t.kind == 'TERM' and p.t.val[0] == 2)

    def name(p):
        if p.word('a'):
            v = (2, 'type')
        elif p.t.kind == 'TERM' and p.t.val[0] == 2:
            v = p.t.val
        else:
            p.fail(2)
        p.take()
        return v

    def select(p, depth):
        s = G()
        p.take()
        s.distinct = False
        s.star = False
        s.items = []
        s.by = []
        s.having = None
        s.keys = []
        s.limit = None
        s.offset = 0
        s.grouped = False
        if p.word('DISTINCT'):
            s.distinct = True
            p.take()
        if p.sign('*'):
            s.star = True
            s.starplace = p.t.place
            p.take()
        else:
            s.items = p.items(s, depth)
        p.xw('WHERE')
        s.group = p.group(depth + 1)
        if p.word('GROUP'):
            p.take()
            p.xw('BY')
            s.grouped = True
            s.by = p.items(None, depth)
        if p.word('HAVING'):
            s.grouped = True
            p.take()
            p.xs('(')
            s.having = p.expr(s, depth, 1, False)
            p.xs(')')
        if p.word('ORDER'):
            p.take()
            p.xw('BY')
            while p.t.kind == 'VAR' or p.sign('(') or p.word('ASC', 'DESC'):
                if len(s.keys) == 6:
                    p.fail(3)
                if p.t.kind == 'VAR':
                    pl = p.t.place
                    v = p.var()
                    p.take()
                    s.keys.append((('VAR', v, pl), False))
                else:
                    d = p.word('DESC')
                    if p.t.kind == 'WORD':
                        p.take()
                    p.xs('(')
                    e = p.expr(s, depth, 1, False)
                    p.xs(')')
                    s.keys.append((e, d))
            if not s.keys:
                p.fail(2)
        if p.word('LIMIT'):
            p.take()
            s.limit = p.whole()
        if p.word('OFFSET'):
            p.take()
            s.offset = p.whole()
        vis = s.group.visible
        seen = []
        for v, e, pl in s.by:
            if v in seen or (e is not None and v in vis):
                raise Fault(4, pl)
            seen.append(v)
        byv = seen
        seen = []
        for v, e, pl in s.items:
            if v in seen or (e is not None and (v in vis or v in byv)):
                raise Fault(4, pl)
            seen.append(v)
        if s.grouped:
            if s.star:
                raise Fault(4, s.starplace)
            occ = []
            had = list(byv)
            for v, e, pl in s.items:
                if e is None:
                    if v not in had:
                        raise Fault(4, pl)
                else:
                    for w, q in sorted(outer_vars(e), key=lambda z: z[1]):
                        if w not in had:
                            raise Fault(4, q)
                    had.append(v)
            if s.having is not None:
                for w, q in outer_vars(s.having):
                    if w not in byv:
                        raise Fault(4, q)
            for e, d in s.keys:
                for w, q in outer_vars(e):
                    if w not in had:
                        raise Fault(4, q)
        s.columns = list(vis) if s.star else [v for v, e, pl in s.items]
        return s

    def items(p, s, depth):
        out = []
        while p.t.kind == 'VAR' or p.sign('('):
            if len(out) == 12:
                p.fail(3)
            if p.t.kind == 'VAR':
                pl = p.t.place
                v = p.var()
                p.take()
                out.append((v, None, pl))
            else:
                p.take()
                e = p.expr(s, depth, 1, False)
                p.xw('AS')
                pl = p.t.place
                v = p.var()
                p.take()
                p.xs(')')
                out.append((v, e, pl))
        if not out:
            p.fail(2)
        return out

    def group(p, depth):
        if not p.sign('{'):
            p.fail(2)
        if depth > 8 or p.groups >= 40:
            p.fail(3)
        p.groups += 1
        p.take()
        g = G()
        g.parts = []
        g.visible = []
        g.sel = None

        def bring(v):
            if v not in g.visible:
                g.visible.append(v)
        if p.word('SELECT'):
            g.sel = p.select(depth)
            for v in g.sel.columns:
                bring(v)
        else:
            while True:
                if p.t.kind in ('TERM', 'VAR'):
                    b = G()
                    b.kind = 'BLOCK'
                    b.lines = []
                    b.npat = 0
                    p.blocks.append(b)
                    g.parts.append(b)
                    while True:
                        p.line(b, bring)
                        if p.sign('.'):
                            p.take()
                            if p.t.kind in ('TERM', 'VAR'):
                                continue
                        break
                elif p.word('FILTER'):
                    p.take()
                    f = G()
                    f.kind = 'FILTER'
                    g.parts.append(f)
                    if p.sign('('):
                        p.take()
                        f.e = p.expr(None, depth, 1, False)
                        p.xs(')')
                    else:
                        neg = p.word('NOT')
                        if neg:
                            p.take()
                        if not p.word('EXISTS'):
                            p.fail(2)
                        p.node()
                        p.take()
                        f.e = ('EXISTS', neg, p.group(depth + 1))
                elif p.word('OPTIONAL', 'MINUS'):
                    o = G()
                    o.kind = p.t.val
                    p.take()
                    o.g = p.group(depth + 1)
                    g.parts.append(o)
                    if o.kind == 'OPTIONAL':
                        for v in o.g.visible:
                            bring(v)
                elif p.sign('{'):
                    u = G()
                    u.kind = 'UNION'
                    u.gs = []
                    g.parts.append(u)
                    while True:
                        x = p.group(depth + 1)
                        u.gs.append(x)
                        for v in x.visible:
                            bring(v)
                        if p.word('UNION'):
                            p.take()
                            continue
                        break
                elif p.word('BIND'):
                    b = G()
                    b.kind = 'BIND'
                    p.take()
                    p.xs('(')
                    b.e = p.expr(None, depth, 1, False)
                    p.xw('AS')
                    pl = p.t.place
                    b.v = p.var()
                    p.take()
                    if b.v in g.visible:
                        raise Fault(4, pl)
                    p.xs(')')
                    bring(b.v)
                    g.parts.append(b)
                elif p.word('VALUES'):
                    v = G()
                    v.kind = 'VALUES'
                    v.cols = []
                    v.rows = []
                    p.take()
                    g.parts.append(v)
                    if p.sign('('):
                        p.take()
                        while p.t.kind == 'VAR' or not v.cols:
                            if p.t.kind != 'VAR':
                                p.fail(2)
                            if len(v.cols) == 8:
                                p.fail(3)
                            pl = p.t.place
                            n = p.var()
                            p.take()
                            if n in v.cols:
                                raise Fault(4, pl)
                            v.cols.append(n)
                            bring(n)
                        p.xs(')')
                        p.xs('{')
                        while p.sign('('):
                            p.take()
                            r = []
                            for _ in v.cols:
                                r.append(p.givenv())
                            p.xs(')')
                            v.rows.append(r)
                        p.xs('}')
                    else:
                        n = p.var()
                        p.take()
                        v.cols = [n]
                        bring(n)
                        p.xs('{')
                        while p.t.kind == 'TERM' or p.word('UNDEF'):
                            v.rows.append([p.givenv()])
                        p.xs('}')
                else:
                    break
        p.xs('}')
        return g

    def givenv(p):
        if p.t.kind == 'TERM':
            v = p.t.val
        elif p.word('UNDEF'):
            v = None
        else:
            p.fail(2)
        if p.given == 40:
            p.fail(3)
        p.given += 1
        p.take()
        return v

    def line(p, b, bring):

        def node(subj):
            if p.t.kind == 'TERM':
                if subj and p.t.val[0] > 2:
                    p.fail(4)
                v = p.t.val
                p.take()
                return v
            v = p.var()
            p.take()
            bring(v)
            return '?' + v
        s = node(True)
        while True:
            path = None
            if p.t.kind == 'VAR':
                v = node(False)
            else:
                p.steps = 0
                simple = p.isname()
                path = p.path(0)
                v = None
                if path[0] == 'NAME' and simple and (p.steps == 1):
                    v = path[1]
                    path = None
            while True:
                if p.t.kind not in ('TERM', 'VAR'):
                    p.fail(2)
                if p.lines == 40 or (path is None and b.npat == 7):
                    p.fail(3)
                o = node(False)
                p.lines += 1
                if path is None:
                    b.lines.append(('P', s, v, o, p.npat))
                    p.npat += 1
                    b.npat += 1
                else:
                    b.lines.append(('L', s, path, o))
                if p.sign(','):
                    p.take()
                    continue
                break
            if p.sign(';'):
                p.take()
                continue
            break

    def step(p):
        if p.steps == 20:
            p.fail(3)
        p.steps += 1
        p.take()

    def path(p, lev):
        a = [p.prow(lev)]
        while p.sign('|'):
            p.step()
            a.append(p.prow(lev))
        return a[0] if len(a) == 1 else ('ALT', a)

    def prow(p, lev):
        a = [p.pstep(lev)]
        while p.sign('/'):
            p.step()
            a.append(p.pstep(lev))
        x = a[0]
        for y in a[1:]:
            x = ('SEQ', x, y)
        return x

    def pstep(p, lev):
        inv = p.sign('^')
        if inv:
            p.step()
        x = p.pone(lev)
        for c in '*+?':
            if p.sign(c):
                p.step()
                x = (c, x)
                break
        return ('INV', x) if inv else x

    def pname(p):
        if not p.isname():
            p.fail(2)
        v = (2, 'type') if p.t.kind == 'WORD' else p.t.val
        p.step()
        return v

    def pone(p, lev):
        if p.sign('!'):
            p.step()

            def none():
                inv = p.sign('^')
                if inv:
                    p.step()
                return (inv, p.pname())
            if p.sign('('):
                if lev == 6:
                    p.fail(3)
                p.take()
                l = [none()]
                while p.sign('|'):
                    p.step()
                    l.append(none())
                p.xs(')')
            else:
                l = [none()]
            return ('NOT', l)
        if p.sign('('):
            if lev == 6:
                p.fail(3)
            p.take()
            x = p.path(lev + 1)
            p.xs(')')
            return x
        return ('NAME', p.pname())

    def node(p):
        if p.nodes == 200:
            p.fail(3)
        p.nodes += 1

    def expr(p, *c):
        a = [p.eand(*c)]
        while p.sign('||'):
            p.node()
            p.take()
            a.append(p.eand(*c))
        return a[0] if len(a) == 1 else ('OR', a)

    def eand(p, *c):
        a = [p.etest(*c)]
        while p.sign('&&'):
            p.node()
            p.take()
            a.append(p.etest(*c))
        return a[0] if len(a) == 1 else ('AND', a)

    def etest(p, *c):
        x = p.esum(*c)
        for o in ('=', '!=', '<', '>', '<=', '>='):
            if p.sign(o):
                p.node()
                p.take()
                y = p.esum(*c)
                return ('CMP', o, x, y)
        if p.word('NOT', 'IN'):
            neg = p.word('NOT')
            if neg:
                p.take()
                if not p.word('IN'):
                    p.fail(2)
            p.node()
            p.take()
            c2 = p.br(c)
            l = []
            if not p.sign(')'):
                l.append(p.expr(*c2))
                while p.sign(','):
                    p.take()
                    l.append(p.expr(*c2))
            p.xs(')')
            return ('IN', neg, x, l)
        return x

    def br(p, c):
        if not p.sign('('):
            p.fail(2)
        if c[2] == 8:
            p.fail(3)
        p.take()
        return (c[0], c[1], c[2] + 1, c[3])

    def esum(p, *c):
        x = p.eprod(*c)
        while p.sign('+') or p.sign('-'):
            o = p.t.val
            p.node()
            p.take()
            y = p.eprod(*c)
            x = ('AR', o, x, y)
        return x

    def eprod(p, *c):
        x = p.esign(0, *c)
        while p.sign('*') or p.sign('/'):
            o = p.t.val
            p.node()
            p.take()
            y = p.esign(0, *c)
            x = ('AR', o, x, y)
        return x

    def esign(p, n, *c):
        if p.sign('!') or p.sign('-'):
            if n == 4:
                p.fail(3)
            o = p.t.val
            p.node()
            p.take()
            return ('UN', o, p.esign(n + 1, *c))
        return p.evalue(*c)

    def evalue(p, *c):
        t = p.t
        if t.kind == 'TERM':
            p.node()
            p.take()
            return ('TERM', t.val)
        if t.kind == 'VAR':
            p.node()
            v = p.var()
            p.take()
            return ('VAR', v, t.place)
        if p.sign('('):
            c2 = p.br(c)
            x = p.expr(*c2)
            p.xs(')')
            return x
        if p.word('NOT', 'EXISTS'):
            neg = p.word('NOT')
            if neg:
                p.take()
                if not p.word('EXISTS'):
                    p.fail(2)
            p.node()
            p.take()
            return ('EXISTS', neg, p.group(c[1] + 1))
        if p.word('BOUND'):
            p.node()
            p.take()
            p.br(c)
            if p.t.kind != 'VAR':
                p.fail(2)
            p.node()
            pl = p.t.place
            v = p.var()
            p.take()
            p.xs(')')
            return ('BOUND', ('VAR', v, pl))
        if t.kind == 'WORD' and t.val in FUN:
            lo, hi = FUN[t.val]
            p.node()
            p.take()
            c2 = p.br(c)
            l = []
            if not (lo == 0 and p.sign(')')):
                l.append(p.expr(*c2))
                while p.sign(',') and len(l) < hi:
                    p.take()
                    l.append(p.expr(*c2))
            if len(l) < lo:
                p.fail(2)
            p.xs(')')
            return ('FUN', t.val, l)
        if t.kind == 'WORD' and t.val in AGG:
            if c[0] is None or c[3]:
                p.fail(4)
            p.node()
            p.take()
            c2 = p.br(c)
            c2 = (c2[0], c2[1], c2[2], True)
            c[0].grouped = True
            d = p.word('DISTINCT')
            if d:
                p.take()
            sep = ' '
            if t.val == 'COUNT' and p.sign('*'):
                p.take()
                e = None
            else:
                e = p.expr(*c2)
            if t.val == 'GROUPCONCAT' and p.sign(';'):
                p.take()
                if p.t.kind != 'TERM' or p.t.val[0] != 5:
                    p.fail(2)
                sep = p.t.val[1]
                p.take()
            p.xs(')')
            return ('AGG', t.val, d, e, sep)
        p.fail(2)

def outer_vars(e):
    if e[0] == 'VAR':
        return [(e[1], e[2])]
    if e[0] in ('AGG', 'EXISTS', 'TERM'):
        return []
    out = []
    for x in e[1:]:
        if isinstance(x, tuple):
            out += outer_vars(x)
        elif isinstance(x, list):
            for y in x:
                out += outer_vars(y)
    return sorted(out, key=lambda z: z[1])
ERR = None

def truth(v):
    if v is ERR:
        return None
    if v[0] == 8:
        return bool(v[1])
    if v[0] in (3, 4):
        return v[1] != 0
    if v[0] == 5:
        return len(v[1]) > 0
    return None

def b2(x):
    return ERR if x is None else (8, 1 if x else 0)

def isnum(v):
    return v is not ERR and v[0] in (3, 4)

def equal(a, b):
    if a is ERR or b is ERR:
        return None
    if isnum(a) and isnum(b):
        return num(a) == num(b)
    if a == b:
        return True
    if a[0] == 7 and b[0] >= 3 or (b[0] == 7 and a[0] >= 3):
        return None
    return False

def less(a, b):
    if a is ERR or b is ERR:
        return None
    if isnum(a) and isnum(b):
        return num(a) < num(b)
    if a[0] == b[0] and a[0] in (5, 8):
        return a < b
    return None

def string(v):
    if v is ERR or v[0] == 1:
        return None
    if v[0] in (2, 5, 6, 7):
        return v[1]
    return write(v)

class Model:

    def __init__(m):
        m.saidset = set()
        m.rules = []
        m.numbers = []
        m.holds = set()
        m.index = {}
        m.spent = 0
        m.text = ''
        m.reset()

    def reset(m):
        m.made_ = 0
        m.plan = []
        m.cols = []
        m.rows = []
        m.placev = 0

    def closure(m, said, rules):
        H = set(said)
        if len(H) > 2000:
            raise NoRoom()

        def istriple(t):
            return t[0] and t[0][0] in (1, 2) and (t[1][0] == 2)
        while True:
            new = set()
            ch = 0
            bypred = {}
            for t in H:
                bypred.setdefault(t[1], []).append(t)
            for body, head in rules:
                binds = [{}]
                for pat in body:
                    nb = []
                    for b in binds:
                        pred = pat[1] if not isinstance(pat[1], str) else b.get(pat[1])
                        for t in bypred.get(pred, []) if pred is not None else H:
                            c = dict(b)
                            ok = True
                            for x, y in zip(pat, t):
                                if isinstance(x, str):
                                    if c.setdefault(x, y) != y:
                                        ok = False
                                        break
                                elif x != y:
                                    ok = False
                                    break
                            if ok:
                                nb.append(c)
                        if ch + len(nb) > 10000:
                            raise NoRoom()
                    binds = nb
                    ch += len(nb)
                    if ch > 10000:
                        raise NoRoom()
                for b in binds:
                    for h in head:
                        t = tuple((b[x] if isinstance(x, str) else x for x in h))
                        if istriple(t) and t not in H:
                            new.add(t)
            if not new:
                return H
            H |= new
            if len(H) > 2000:
                raise NoRoom()

    def addterms(m, terms):
        new = sorted({t for t in terms if t not in m.index}, key=okey)
        if len(m.numbers) + len(new) > 800:
            raise NoRoom()
        return new

    def commit(m, said, rules, new):
        H = m.closure(said, rules)
        for t in new:
            m.numbers.append(t)
            m.index[t] = len(m.numbers)
        m.saidset = said
        m.rules = rules
        m.holds = H

    def run(m, text):
        m.reset()
        m.cnt = 0
        m.left = min(8000, 20000 - m.spent)
        m.tm = set()
        m.tb = 0
        try:
            p = Parser(text)
            s = p.statement()
        except Fault as f:
            m.placev = f.place
            return -100 - f.code
        m.p = p
        m.bypred = {}
        m.H = sorted(m.holds, key=lambda t: [m.index[x] for x in t])
        m.byS = {}
        m.byO = {}
        m.byP = {}
        for t in m.H:
            m.byS.setdefault(t[0], []).append(t)
            m.byP.setdefault(t[1], []).append(t)
            m.byO.setdefault(t[2], []).append(t)
        m.points = sorted({t[0] for t in m.H} | {t[2] for t in m.H}, key=okey)
        plan = []
        for b in p.blocks:
            m.planblock(b)
            plan += [l[4] for l in b.plan]
        try:
            a = m.perform(s)
            m.made_ = m.cnt
            m.spent += m.cnt
            m.plan = plan
            m.placev = len(text)
            return a
        except Over:
            m.reset()
            m.made_ = 8000
            m.spent += min(8000, 20000 - m.spent)
            m.plan = plan
            return -105
        except NoRoom:
            m.spent += m.cnt
            m.reset()
            return -106
        except KeyError as e:
            if e.args and e.args[0] == 'norule':
                m.reset()
                return -107
            raise

    def make(m, n=1):
        m.cnt += n
        if m.cnt > m.left:
            raise Over()

    def perform(m, s):
        if s.kind == 'SELECT':
            rows = m.select(s.sel)
            m.cols = s.sel.columns
            m.rows = [[r.get(c) for c in m.cols] for r in rows]
            return len(rows)
        if s.kind == 'ASK':
            return 1 if m.group(s.group, [{}]) else 0
        if s.kind == 'CONSTRUCT':
            rows = m.group(s.group, [{}])
            ts = m.give(s.facts, rows, True)
            m.cols = ['s', 'p', 'o']
            m.rows = sorted([list(t) for t in ts], key=lambda t: [okey(x) for x in t])
            return len(ts)
        if s.kind == 'CHANGE':
            rows = [{}] if s.data else m.group(s.group, [{}])
            d = m.give(s.dele, rows, not s.data)
            i = m.give(s.ins, rows, not s.data)
            gone = m.saidset & d
            said = m.saidset - d
            news = i - said
            new = m.addterms([x for t in i for x in t])
            m.commit(said | i, m.rules, new)
            return len(gone) + len(news)
        if s.kind == 'RULE':
            if len(m.rules) >= 16:
                raise NoRoom()
            new = m.addterms([x for t in s.body + s.head for x in t if not isinstance(x, str)])
            m.commit(m.saidset, m.rules + [(s.body, s.head)], new)
            return len(m.rules) - 1
        if s.kind == 'UNRULE':
            if s.n >= len(m.rules):
                raise KeyError('norule')
            m.commit(m.saidset, m.rules[:s.n] + m.rules[s.n + 1:], [])
            return len(m.rules)
        if s.kind == 'CLEAR':
            n = len(m.saidset)
            m.commit(set(), m.rules, [])
            return n

    def give(m, facts, rows, count):
        out = set()
        for r in rows:
            for f in facts:
                t = tuple((r.get(x[1:]) if isinstance(x, str) else x for x in f))
                if None in t or t[0][0] > 2 or t[1][0] != 2:
                    continue
                if t not in out:
                    if count:
                        m.make()
                    out.add(t)
        return out

    def planblock(m, b):
        pats = [l for l in b.lines if l[0] == 'P']
        b.plan = []
        if not pats:
            return
        info = []
        for l in pats:
            ts = [t for t in m.H if all((isinstance(x, str) or x == y for x, y in zip(l[1:4], t)))]
            info.append((len(ts), [len({t[k] for t in ts}) for k in range(3)]))
        best = None
        CAP = 10 ** 12

        def est(i, known):
            n, d = info[i]
            if n == 0:
                return 0
            q = 1
            for k in range(3):
                x = pats[i][1 + k]
                if isinstance(x, str) and x in known:
                    q *= d[k]
            return -(-n // q)
        for perm in permutations(range(len(pats))):
            known = set()
            size = 1
            tot = 0
            for i in perm:
                size = min(CAP, size * est(i, known))
                tot = min(CAP, tot + size)
                known |= {x for x in pats[i][1:4] if isinstance(x, str)}
            if best is None or tot < best[0]:
                best = (tot, perm)
        b.plan = [pats[i] for i in best[1]]

    def cost(m, g):
        n = 1
        for p in g.parts:
            if p.kind == 'BLOCK':
                n += len(p.lines)
            elif p.kind == 'UNION':
                n += len(p.gs)
            elif p.kind == 'VALUES':
                n += 1 + len(p.rows)
            else:
                n += 1
        return n

    def fits(m, a, b):
        return all((b[k] == v for k, v in a.items() if k in b))

    def join(m, A, B):
        out = []
        for a in A:
            for b in B:
                if m.fits(a, b):
                    m.make()
                    c = dict(a)
                    c.update(b)
                    out.append(c)
        return out

    def group(m, g, bag, filters=True):
        if g.sel:
            return m.join(bag, m.select(g.sel))
        m.make(m.cost(g))
        for p in g.parts:
            k = p.kind
            if k == 'BLOCK':
                bag = m.block(p, bag)
            elif k == 'OPTIONAL':
                B = m.group(p.g, [{}], False)
                fs = [] if p.g.sel else [q for q in p.g.parts if q.kind == 'FILTER']
                out = []
                for a in bag:
                    anyy = False
                    for b in B:
                        if m.fits(a, b):
                            m.make()
                            c = dict(a)
                            c.update(b)
                            if all([truth(m.ev(f.e, c)) is True for f in fs]):
                                out.append(c)
                                anyy = True
                    if not anyy:
                        m.make()
                        out.append(a)
                bag = out
            elif k == 'MINUS':
                B = m.group(p.g, [{}])
                bag = [a for a in bag if not any((m.fits(a, b) and set(a) & set(b) for b in B))]
            elif k == 'UNION':
                B = []
                for h in p.gs:
                    B += m.group(h, [{}])
                bag = m.join(bag, B)
            elif k == 'VALUES':
                B = [{c: v for c, v in zip(p.cols, r) if v is not None} for r in p.rows]
                bag = m.join(bag, B)
            elif k == 'BIND':
                out = []
                for a in bag:
                    v = m.ev(p.e, a)
                    a = dict(a)
                    if p.v not in a and v is not ERR:
                        m.keep(v)
                        a[p.v] = v
                    out.append(a)
                bag = out
        if filters:
            fs = [q for q in g.parts if q.kind == 'FILTER']
            if fs:
                bag = [a for a in bag if all([truth(m.ev(f.e, a)) is True for f in fs])]
        return bag

    def keep(m, v):
        if v in m.index or v in m.tm:
            return
        m.tm.add(v)
        if v[0] in (2, 5, 6, 7):
            m.tb += len(v[1]) + (len(v[2]) if v[0] in (6, 7) else 0)
        if len(m.tm) > 1000 or m.tb > 16000:
            raise Over()

    def block(m, b, bag):
        for l in b.plan:
            out = []
            for r in bag:
                pat = [r.get(x[1:], x) if isinstance(x, str) else x for x in l[1:4]]
                cand = m.H
                if not isinstance(pat[0], str):
                    cand = m.byS.get(pat[0], [])
                elif not isinstance(pat[2], str):
                    cand = m.byO.get(pat[2], [])
                elif not isinstance(pat[1], str):
                    cand = m.byP.get(pat[1], [])
                for t in cand:
                    c = dict(r)
                    ok = True
                    for x, y in zip(l[1:4], t):
                        if isinstance(x, str):
                            if c.setdefault(x[1:], y) != y:
                                ok = False
                                break
                        elif x != y:
                            ok = False
                            break
                    if ok:
                        m.make()
                        out.append(c)
            bag = out
        for l in b.lines:
            if l[0] != 'L':
                continue
            out = []
            for r in bag:
                s = r.get(l[1][1:]) if isinstance(l[1], str) else l[1]
                o = r.get(l[3][1:]) if isinstance(l[3], str) else l[3]
                same = isinstance(l[1], str) and l[1] == l[3]
                pts = list(m.points)
                for x in (s, o):
                    if x is not None and x not in pts:
                        pts.append(x)
                ss = [s] if s is not None else pts
                for x in ss:
                    res = m.path(l[2], x)
                    os = [o] if o is not None else [x] if same else pts
                    for y in os:
                        for _ in range(min(res.get(y, 0), 9000)):
                            m.make()
                            c = dict(r)
                            if isinstance(l[1], str):
                                c[l[1][1:]] = x
                            if isinstance(l[3], str):
                                c[l[3][1:]] = y
                            out.append(c)
            bag = out
        return bag

    def path(m, p, x, inv=False):
        k = p[0]
        out = {}

        def add(y, n=1):
            out[y] = out.get(y, 0) + n
        if k == 'NAME':
            if inv:
                for t in m.byO.get(x, []):
                    if t[1] == p[1]:
                        add(t[0])
            else:
                for t in m.byS.get(x, []):
                    if t[1] == p[1]:
                        add(t[2])
            return out
        if k == 'INV':
            return m.path(p[1], x, not inv)
        if k == 'ALT':
            for q in p[1]:
                for y, n in m.path(q, x, inv).items():
                    add(y, n)
            return out
        if k == 'SEQ':
            a, b = (p[2], p[1]) if inv else (p[1], p[2])
            for z, n in m.path(a, x, inv).items():
                for y, n2 in m.path(b, z, inv).items():
                    add(y, n * n2)
            return out
        if k == 'NOT':
            fw = [v for i, v in p[1] if not i]
            bw = [v for i, v in p[1] if i]
            if fw:
                for t in (m.byO if inv else m.byS).get(x, []):
                    if t[1] not in fw:
                        add(t[0] if inv else t[2])
            if bw:
                for t in (m.byS if inv else m.byO).get(x, []):
                    if t[1] not in bw:
                        add(t[2] if inv else t[0])
            return out
        if k == '?':
            out = {y: 1 for y, n in m.path(p[1], x, inv).items() if n}
            out[x] = 1
            return out
        seen = set()
        todo = [x]
        if k == '*':
            seen.add(x)
        while todo:
            z = todo.pop()
            for y in m.path(p[1], z, inv):
                if y not in seen:
                    seen.add(y)
                    todo.append(y)
        return {y: 1 for y in seen}

    def select(m, s):
        m.make(6)
        rows = [dict(r) for r in m.group(s.group, [{}])]
        done = []
        if not s.grouped:
            for r in rows:
                for v, e, pl in s.items:
                    if e is not None:
                        x = m.ev(e, r)
                        if x is not ERR:
                            m.keep(x)
                            r[v] = x
                done.append((r, None))
        else:
            for v, e, pl in s.by:
                if e is not None:
                    for r in rows:
                        x = m.ev(e, r)
                        if x is not ERR:
                            m.keep(x)
                            r[v] = x
            if s.by:
                sets = {}
                for r in rows:
                    sets.setdefault(tuple((r.get(v) for v, e, pl in s.by)), []).append(r)
                sets = list(sets.items())
            else:
                sets = [((), rows)]
            for key, rs in sets:
                m.make()
                r = {v: x for (v, e, pl), x in zip(s.by, key) if x is not None}
                ctx = (rs, s.group.visible)
                if s.having is not None and truth(m.ev(s.having, r, ctx)) is not True:
                    continue
                for v, e, pl in s.items:
                    if e is not None:
                        x = m.ev(e, r, ctx)
                        if x is not ERR:
                            m.keep(x)
                            r[v] = x
                done.append((r, ctx))
        out = []
        for r, ctx in done:
            ks = []
            for e, d in s.keys:
                x = m.ev(e, r, ctx)
                if x is not ERR:
                    m.keep(x)
                ks.append(x)
            out.append((ks, r))
        from functools import cmp_to_key

        def k1(x):
            return (0,) if x is None else (1, okey(x))

        def cmp(a, b):
            for x, y, (e, d) in zip(a[0], b[0], s.keys):
                x, y = (k1(x), k1(y))
                if x != y:
                    return (-1 if x < y else 1) * (-1 if d else 1)
            for c in s.columns:
                x, y = (k1(a[1].get(c)), k1(b[1].get(c)))
                if x != y:
                    return -1 if x < y else 1
            return 0
        out.sort(key=cmp_to_key(cmp))
        res = [{c: r[c] for c in s.columns if c in r} for ks, r in out]
        if s.distinct:
            seen = set()
            q = []
            for r in res:
                k = tuple((r.get(c) for c in s.columns))
                if k not in seen:
                    seen.add(k)
                    q.append(r)
            res = q
        res = res[s.offset:]
        if s.limit is not None:
            res = res[:s.limit]
        return res

    def ev(m, e, r, ctx=None):
        k = e[0]
        if k == 'TERM':
            m.make()
            return e[1]
        if k == 'VAR':
            m.make()
            return r.get(e[1])
        if k == 'OR' or k == 'AND':
            ts = [truth(m.ev(x, r, ctx)) for x in e[1]]
            m.make()
            w = k == 'OR'
            if w in ts:
                return b2(w)
            if None in ts:
                return ERR
            return b2(not w)
        if k == 'CMP':
            a = m.ev(e[2], r, ctx)
            b = m.ev(e[3], r, ctx)
            m.make()
            o = e[1]

            def neg(x):
                return None if x is None else not x
            return b2({'=': lambda: equal(a, b), '!=': lambda: neg(equal(a, b)), '<': lambda: less(a, b), '>': lambda: less(b, a), '<=': lambda: neg(less(b, a)), '>=': lambda: neg(less(a, b))}[o]())
        if k == 'IN':
            a = m.ev(e[2], r, ctx)
            l = [m.ev(x, r, ctx) for x in e[3]]
            m.make()
            if a is ERR:
                return ERR
            q = [equal(a, x) for x in l]
            t = True if True in q else None if None in q else False
            return ERR if t is None else b2(t != e[1])
        if k == 'AR':
            a = m.ev(e[2], r, ctx)
            b = m.ev(e[3], r, ctx)
            m.make()
            if not isnum(a) or not isnum(b):
                return ERR
            x, y = (num(a), num(b))
            if e[1] == '/':
                return ERR if y == 0 else mkdec(x / y)
            z = x + y if e[1] == '+' else x - y if e[1] == '-' else x * y
            return mkwhole(int(z)) if a[0] == 3 and b[0] == 3 else mkdec(z)
        if k == 'UN':
            a = m.ev(e[2], r, ctx)
            m.make()
            if e[1] == '!':
                t = truth(a)
                return ERR if t is None else b2(not t)
            if not isnum(a):
                return ERR
            return (a[0], -a[1]) + a[2:]
        if k == 'EXISTS':
            m.make()
            g = m.group(e[2], [dict(r)])
            return b2((len(g) > 0) != e[1])
        if k == 'BOUND':
            a = m.ev(e[1], r, ctx)
            m.make()
            return b2(a is not ERR)
        if k == 'FUN':
            a = [m.ev(x, r, ctx) for x in e[2]]
            m.make()
            return m.fun(e[1], a)
        if k == 'AGG':
            return m.agg(e, ctx)

    def fun(m, f, a):
        if f == 'IF':
            t = truth(a[0])
            return ERR if t is None else a[1] if t else a[2]
        if f == 'COALESCE':
            for x in a:
                if x is not ERR:
                    return x
            return ERR
        if f == 'CONCAT':
            if any((x is ERR or x[0] not in (5, 6) for x in a)):
                return ERR
            s = ''.join((x[1] for x in a))
            if len(s) > 64:
                return ERR
            if a and all((x[0] == 6 and x[2] == a[0][2] for x in a)):
                return (6, s, a[0][2])
            return (5, s)
        if any((x is ERR for x in a)):
            return ERR
        x = a[0]
        k = x[0]
        if f == 'STR':
            s = string(x)
            return ERR if s is None else (5, s)
        if f == 'LANG':
            return ERR if k < 3 else (5, x[2] if k == 6 else '')
        if f == 'DATATYPE':
            if k < 3:
                return ERR
            return (2, x[2]) if k == 7 else (2, {3: 'whole', 4: 'decimal', 5: 'text', 6: 'tagged', 8: 'truth'}[k])
        if f == 'TONAME':
            if k == 2:
                return x
            if k == 5 and 1 <= len(x[1]) <= 40 and all((c in NB for c in x[1])):
                return (2, x[1])
            return ERR
        if f == 'ISNAME':
            return b2(k == 2)
        if f == 'ISBLANK':
            return b2(k == 1)
        if f == 'ISLITERAL':
            return b2(k >= 3)
        if f == 'ISNUMERIC':
            return b2(k in (3, 4))
        if f in ('ABS', 'CEIL', 'FLOOR', 'ROUND'):
            if k not in (3, 4):
                return ERR
            v = num(x)
            if f == 'ABS':
                return (k, abs(x[1])) + x[2:]
            n = -(-v).__floor__() if f == 'CEIL' else v.__floor__() if f == 'FLOOR' else (v + Fraction(1, 2)).__floor__()
            return mkwhole(n) if k == 3 else mkdec(Fraction(n))
        if f == 'SAMETERM':
            return b2(a[0] == a[1])
        if k not in (5, 6):
            return ERR
        if f == 'STRLEN':
            return (3, len(x[1]))
        if f == 'UCASE':
            return (k, x[1].upper()) + x[2:]
        if f == 'LCASE':
            return (k, x[1].lower()) + x[2:]
        if f == 'SUBSTR':
            if a[1][0] != 3 or a[2][0] != 3:
                return ERR
            s, n = (a[1][1], a[2][1])
            return (k, ''.join((c for i, c in enumerate(x[1], 1) if s <= i < s + n))) + x[2:]
        y = a[1]
        if not (y[0] == 5 or (y[0] == 6 and k == 6 and (y[2] == x[2]))):
            return ERR
        if f == 'STRSTARTS':
            return b2(x[1].startswith(y[1]))
        if f == 'STRENDS':
            return b2(x[1].endswith(y[1]))
        if f == 'CONTAINS':
            return b2(y[1] in x[1])
        i = x[1].find(y[1])
        if i < 0:
            return (5, '')
        return (k, x[1][:i] if f == 'STRBEFORE' else x[1][i + len(y[1]):]) + x[2:]

    def agg(m, e, ctx):
        _, f, d, ex, sep = e
        rows, vis = ctx
        if ex is None:
            m.make()
            if d:
                return (3, len({tuple((r.get(v) for v in vis)) for r in rows}))
            return (3, len(rows))
        vals = [m.ev(ex, r) for r in rows]
        m.make()
        if d:
            q = []
            for v in vals:
                if v not in q:
                    q.append(v)
            vals = q
        good = [v for v in vals if v is not ERR]
        if f == 'COUNT':
            return (3, len(good))
        if f in ('SUM', 'AVG'):
            if any((not isnum(v) for v in vals)):
                return ERR
            z = sum((num(v) for v in vals), Fraction(0))
            t = mkwhole(int(z)) if all((v[0] == 3 for v in vals)) else mkdec(z)
            if f == 'SUM' or t is None:
                return t
            if not vals:
                return (3, 0)
            return mkdec(num(t) / len(vals))
        if f in ('MIN', 'SAMPLE'):
            return min(good, key=okey) if good else ERR
        if f == 'MAX':
            return max(good, key=okey) if good else ERR
        if len(good) < len(vals):
            return ERR
        ss = [string(v) for v in sorted(vals, key=okey)]
        if None in ss:
            return ERR
        s = sep.join(ss)
        return ERR if len(s) > 64 else (5, s)

    def dump(m, a):
        H = m.holds
        ix = m.index
        out = [a, m.placev, m.made_, len(m.rows), len(m.cols)]
        out += ['|'.join(m.cols)]
        for r in m.rows:
            out.append(' '.join(('-' if x is None else write(x) for x in r)))
        out.append('plan ' + ' '.join(map(str, m.plan)))
        out += [len(H), len(m.saidset), len(m.numbers), len(m.rules)]
        out.append('terms ' + ' '.join((write(t) for t in m.numbers)))
        hs = sorted(((ix[s], ix[p], ix[o], 1 if (s, p, o) in m.saidset else 0) for s, p, o in H))
        out.append('holds ' + ' '.join((','.join(map(str, h)) for h in hs)))
        return [str(x) for x in out]
