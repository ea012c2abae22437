"""A second FormulaWorks, written from the document in the plainest ways.

It is a check on src/main/java/FormulaWorks.java: determinants by permutations, parts by Hermite,
guesses by Euclid, trees by recursion, everything unbounded until it is kept. runs.py lets both
answer the same calls.
"""
import functools
import itertools
import random

P = 32003


def inv(a):
    return pow(a, P - 2, P)


def tr(a):
    a = [x % P for x in a]
    while a and a[-1] == 0:
        a.pop()
    return tuple(a)


def deg(a):
    return len(a) - 1


def padd(a, b, f=1):
    n = max(len(a), len(b))
    return tr([(a[i] if i < len(a) else 0) + f * (b[i] if i < len(b) else 0) for i in range(n)])


def pmul(a, b):
    if not a or not b:
        return ()
    r = [0] * (len(a) + len(b) - 1)
    for i, x in enumerate(a):
        for j, y in enumerate(b):
            r[i + j] += x * y
    return tr(r)


def pdivmod(a, b):
    a = list(a)
    q = [0] * max(0, len(a) - len(b) + 1)
    l = inv(b[-1])
    for k in range(len(a) - len(b), -1, -1):
        c = a[k + len(b) - 1] * l % P
        q[k] = c
        for i, y in enumerate(b):
            a[k + i] = (a[k + i] - c * y) % P
    return tr(q), tr(a)


def pmonic(a):
    return tr([x * inv(a[-1]) for x in a]) if a else a


def pgcd(a, b):
    while b:
        a, b = b, pdivmod(a, b)[1]
    return pmonic(a)


def pexgcd(a, b):
    s0, s1, t0, t1 = (1,), (), (), (1,)
    while b:
        q, r = pdivmod(a, b)
        a, b = b, r
        s0, s1 = s1, padd(s0, pmul(q, s1), -1)
        t0, t1 = t1, padd(t0, pmul(q, t1), -1)
    l = inv(a[-1])
    return tuple(tr([x * l for x in v]) for v in (a, s0, t0))


def pder(a):
    return tr([i * x for i, x in enumerate(a)][1:])


def pval(a, v):
    r = 0
    for x in reversed(a):
        r = (r * v + x) % P
    return r


def pcomp(a, g):
    r = ()
    for x in reversed(a):
        r = padd(pmul(r, g), (x,))
    return tr(r)


def pshift(a, h):
    return pcomp(a, tr((h, 1)))


def ppow(a, n):
    r = (1,)
    for _ in range(n):
        r = pmul(r, a)
    return r


X = (0, 1)


# unbounded fractions
def frac(a, b):
    if not a:
        return ((), (1,))
    g = pgcd(a, b)
    a = pdivmod(a, g)[0]
    b = pdivmod(b, g)[0]
    l = inv(b[-1])
    return (tr([x * l for x in a]), tr([x * l for x in b]))


def fadd(f, g, s=1):
    return frac(padd(pmul(f[0], g[1]), pmul(g[0], f[1]), s), pmul(f[1], g[1]))


def fmul(f, g):
    return frac(pmul(f[0], g[0]), pmul(f[1], g[1]))


def fdiv(f, g):
    return frac(pmul(f[0], g[1]), pmul(f[1], g[0]))


def fder(f):
    return frac(padd(pmul(pder(f[0]), f[1]), pmul(f[0], pder(f[1])), -1), pmul(f[1], f[1]))


def fshift(f, h):
    return (pshift(f[0], h), pshift(f[1], h))


F0 = ((), (1,))
F1 = ((1,), (1,))


def W(p):
    return (p, (1,))


def great(f):
    return deg(f[0]) > 40 or deg(f[1]) > 40


def solve(cols, rhs):
    """solution with 0 at dependent columns, or None"""
    n = max([len(c) for c in cols] + [len(rhs)] + [1])
    M = [[(c[i] if i < len(c) else 0) for c in cols] + [rhs[i] if i < len(rhs) else 0] for i in range(n)]
    piv = []
    r = 0
    for c in range(len(cols)):
        k = next((i for i in range(r, n) if M[i][c]), None)
        if k is None:
            continue
        M[r], M[k] = M[k], M[r]
        l = inv(M[r][c])
        M[r] = [x * l % P for x in M[r]]
        for i in range(n):
            if i != r and M[i][c]:
                f = M[i][c]
                M[i] = [(x - f * y) % P for x, y in zip(M[i], M[r])]
        piv.append(c)
        r += 1
    if any(M[i][-1] for i in range(r, n)):
        return None, piv
    s = [0] * len(cols)
    for i, c in enumerate(piv):
        s[c] = M[i][-1]
    return s, piv


def nullspace(cols):
    """basis"""
    n = len(cols)
    res = []
    for j in range(n):
        s, piv = solve(cols[:j], cols[j])
        if s is not None:
            v = [(-x) % P for x in s] + [1] + [0] * (n - j - 1)
            res.append(v)
    return res


def power_mod(a, n, m):
    r = (1,)
    for bit in bin(n)[2:]:
        r = pdivmod(pmul(r, r), m)[1]
        if bit == "1":
            r = pdivmod(pmul(r, a), m)[1]
    return r


def split_equal(f, d):
    """The factors of a product of different ones of degree d, by chance."""
    if deg(f) == d:
        return [f]
    chance = random.Random(str(f))
    while True:
        a = tr([chance.randrange(P) for _ in range(deg(f))])
        g = pgcd(padd(power_mod(a, (P**d - 1) // 2, f), (1,), -1), f)
        if 0 < deg(g) < deg(f):
            return split_equal(g, d) + split_equal(pdivmod(f, g)[0], d)


@functools.lru_cache(10000)
def factorize(a):
    """(factor, how often) in the order of the document."""
    if deg(a) < 1:
        return []
    left = pmonic(pdivmod(a, pgcd(a, pder(a)))[0])
    found = []
    d = 0
    image = X
    while deg(left) > 0:
        d += 1
        if 2 * d > deg(left):
            found.append(left)
            break
        image = power_mod(image, P, left)
        g = pgcd(padd(image, X, -1), left)
        if deg(g) > 0:
            found += split_equal(g, d)
            left = pdivmod(left, g)[0]
            image = pdivmod(image, left)[1] if deg(left) > 0 else ()
    r = []
    for f in found:
        k = 0
        b = a
        while not pdivmod(b, f)[1]:
            b = pdivmod(b, f)[0]
            k += 1
        r.append((f, k))
    r.sort(key=lambda fk: (len(fk[0]), tuple(reversed(fk[0]))))
    return r


def ffactors(f):
    return factorize(f[1] if deg(f[1]) > 0 else f[0])


def parts(f):
    rem, left = pdivmod(f[0], f[1])
    res = {}
    for k, (p, e) in enumerate(factorize(f[1])):
        pe = ppow(p, e)
        q = pdivmod(f[1], pe)[0]
        g, s, t = pexgcd(q, pe)
        A = pdivmod(pmul(left, s), pe)[1]
        for j in range(e, 0, -1):
            A, d = pdivmod(A, p)
            res[k, j] = d
    return rem, res


def corerest(f):
    rem, ps = parts(f)
    fs = factorize(f[1])
    core = W(tr([0] + [x * inv(i + 1) for i, x in enumerate(rem)]))
    rest = F0
    for k, (p, e) in enumerate(fs):
        carry = ()
        for j in range(e, 0, -1):
            d = padd(ps[k, j], carry)
            if j == 1:
                rest = fadd(rest, frac(d, p)) if d else rest
                break
            g, s, t = pexgcd(p, pder(p))  # s p + t p' = 1
            # d = (d s) p + (d t) p' ; reduce d t mod p
            q, tt = pdivmod(pmul(d, t), p)
            ss = padd(pmul(d, s), pmul(q, pder(p)))
            if tt:
                core = fadd(core, frac(tr([-x * inv(j - 1) for x in tt]), ppow(p, j - 1)))
            carry = padd(ss, tr([x * inv(j - 1) for x in pder(tt)]))
            # carry may have degree>=deg p: that goes down to lower powers
    return core, rest


def ser(a):
    a = list(a)[:25]
    return tuple(a + [0] * (25 - len(a)))


def smul(a, b):
    r = [0] * 25
    for i in range(25):
        if a[i]:
            for j in range(25 - i):
                r[i + j] += a[i] * b[j]
    return tuple(x % P for x in r)


def sdiv(a, b):
    q = []
    l = inv(b[0])
    a = list(a)
    for n in range(25):
        c = a[n] * l % P
        q.append(c)
        for j in range(25 - n):
            a[n + j] = (a[n + j] - c * b[j]) % P
    return tuple(q)


def sder(a):
    return tuple([(i * a[i]) % P for i in range(1, 25)] + [0])


def sint(a):
    return tuple([0] + [a[i] * inv(i + 1) % P for i in range(24)])


def sadd(a, b, s=1):
    return tuple((x + s * y) % P for x, y in zip(a, b))


def sput(a, b):
    r = ser(())
    pw = ser((1,))
    for i in range(25):
        r = sadd(r, tuple(a[i] * x for x in pw))
        pw = smul(pw, b)
    return r


def sexp(a):
    # sum a^k/k!
    r = ser(())
    pw = ser((1,))
    f = 1
    for k in range(25):
        r = sadd(r, tuple(inv(f) * x for x in pw))
        pw = smul(pw, a)
        f = f * (k + 1) % P
    return r


def slog(a):
    u = list(a)
    u[0] = 0
    u = tuple(u)
    r = ser(())
    pw = u
    for k in range(1, 25):
        r = sadd(r, tuple((1 if k % 2 else -1) * inv(k) * x for x in pw))
        pw = smul(pw, u)
    return r


def srev(a):
    r = [0] * 25
    r[1] = inv(a[1])
    for n in range(2, 25):
        c = sput(a, tuple(r))[n]  # a1*r_n + rest
        r[n] = -c * inv(a[1]) % P
    return tuple(r)


def sroot(a):
    c = next((x for x in range(1, P // 2 + 1) if x * x % P == a[0]), None)
    if c is None or a[0] == 0:
        return None
    r = [c] + [0] * 24
    for n in range(1, 25):
        r[n] = (a[n] - smul(r, r)[n]) * inv(2 * c) % P
    return tuple(r)


def sguess(s):
    r0, r1 = tuple([0] * 25 + [1]), tr(s)
    t0, t1 = (), (1,)
    while deg(r1) > 11:
        q, r = pdivmod(r0, r1)
        r0, r1 = r1, r
        t0, t1 = t1, padd(t0, pmul(q, t1), -1)
    f = frac(r1, t1) if t1 else None
    if f is None:
        return None
    if deg(f[0]) > 11 or deg(f[1]) > 12 or f[1][0] == 0:
        return None
    return f if sdiv(ser(f[0]), ser(f[1])) == tuple(s) else None


def det(M):
    n = len(M)
    r = ()
    for perm in itertools.permutations(range(n)):
        sg = 1
        for i in range(n):
            for j in range(i):
                if perm[j] > perm[i]:
                    sg = -sg
        t = (1,)
        for i in range(n):
            t = pmul(t, M[i][perm[i]])
        r = padd(r, t, sg)
    return r


def minors(M, k):
    for rs in itertools.combinations(range(len(M)), k):
        for cs in itertools.combinations(range(len(M[0])), k):
            yield det([[M[i][j] for j in cs] for i in rs])


def rank(M):
    A = [[W(x) for x in r] for r in M]
    r = 0
    for c in range(len(A[0])):
        k = next((i for i in range(r, len(A)) if A[i][c][0]), None)
        if k is None:
            continue
        A[r], A[k] = A[k], A[r]
        for i in range(r + 1, len(A)):
            f = fdiv(A[i][c], A[r][c])
            A[i] = [fadd(x, fmul(f, y), -1) for x, y in zip(A[i], A[r])]
        r += 1
    return r


def fsolve(M):
    A = [[W(x) for x in r] for r in M]
    r = 0
    n = len(A[0]) - 1
    piv = []
    for c in range(n):
        k = next((i for i in range(r, len(A)) if A[i][c][0]), None)
        if k is None:
            continue
        A[r], A[k] = A[k], A[r]
        l = A[r][c]
        A[r] = [fdiv(x, l) for x in A[r]]
        for i in range(len(A)):
            if i != r:
                f = A[i][c]
                A[i] = [fadd(x, fmul(f, y), -1) for x, y in zip(A[i], A[r])]
        piv.append(c)
        r += 1
    if any(A[i][n][0] for i in range(r, len(A))):
        return None
    s = [F0] * n
    for i, c in enumerate(piv):
        s[c] = A[i][n]
    return s


class Fault(Exception):
    pass


def show_poly(p):
    if not p:
        return "0"
    o = []
    for k in range(deg(p), -1, -1):
        c = p[k]
        if c == 0:
            continue
        if k == 0:
            o.append(str(c))
            continue
        x = "x" if k == 1 else "x^%d" % k
        o.append(x if c == 1 else "%d*%s" % (c, x))
    return "+".join(o)


def show_frac(f):
    return show_poly(f[0]) if f[1] == (1,) else "(%s)/(%s)" % (show_poly(f[0]), show_poly(f[1]))


class Parser:
    def __init__(s, text, tree, hand=None, cell=None, claim=False):
        s.t = text
        s.i = 0
        s.tree = tree
        s.hand = hand
        s.cell = cell
        s.depth = 0
        s.claim = claim

    def pk(s):
        return s.t[s.i] if s.i < len(s.t) else None

    def bad(s):
        raise Fault(1, s.i)

    def sum(s):
        neg = s.pk() == "-"
        if neg:
            s.i += 1
        a = s.term()
        if neg:
            a = ("neg", a) if s.tree else (tr([-x for x in a[0]]), a[1])
        while s.pk() in ("+", "-"):
            op = s.pk()
            at = s.i
            s.i += 1
            a = s.op(op, a, s.term(), at)
        return a

    def op(s, op, a, b, at):
        if s.tree:
            return (op, a, b)
        if op == "/" and not b[0]:
            raise Fault(4, at)
        r = {
            "+": lambda: fadd(a, b),
            "-": lambda: fadd(a, b, -1),
            "*": lambda: fmul(a, b),
            "/": lambda: fdiv(a, b),
        }[op]()
        if great(r):
            raise Fault(5, at)
        return r

    def term(s):
        a = s.power()
        while s.pk() in ("*", "/"):
            op = s.pk()
            at = s.i
            s.i += 1
            a = s.op(op, a, s.power(), at)
        return a

    def digits(s, n):
        st = s.i
        while s.pk() is not None and "0" <= s.pk() <= "9":
            if s.i - st == n:
                raise Fault(2, s.i)
            s.i += 1
        if s.i == st:
            s.bad()
        return int(s.t[st : s.i])

    def power(s):
        a = s.atom()
        if s.pk() == "^":
            at = s.i
            s.i += 1
            n = s.digits(2)
            if s.tree:
                return ("pow", a, n)
            if n * max(deg(a[0]), deg(a[1])) > 40:
                raise Fault(5, at)
            a = frac(ppow(a[0], n), ppow(a[1], n))
            if great(a):
                raise Fault(5, at)
        return a

    def atom(s):
        c = s.pk()
        if c is None:
            s.bad()
        if "0" <= c <= "9":
            v = s.digits(6) % P
            return ("num", v) if s.tree else W(tr((v,)))
        if c == "x":
            s.i += 1
            return ("x",) if s.tree else W(X)
        if c == "#" and s.hand is not None:
            at = s.i
            s.i += 1
            h = s.digits(3)
            f = s.hand(h)
            if f is None:
                raise Fault(3, at)
            return f
        if c == "(":
            if s.depth == 20:
                raise Fault(6, s.i)
            s.depth += 1
            s.i += 1
            a = s.sum()
            if s.pk() != ")":
                s.bad()
            s.i += 1
            s.depth -= 1
            return a
        if s.cell is not None and "A" <= c <= "P":
            f = s.cell(ord(c) - 65)
            if f is None:
                raise Fault(7, s.i)
            s.i += 1
            return f
        s.bad()

    def whole(s):
        a = s.sum()
        if s.claim:
            if s.pk() != "=":
                s.bad()
            s.i += 1
            b = s.sum()
            if s.pk() is not None:
                s.bad()
            return a, b
        if s.pk() is not None:
            s.bad()
        return a


BIN = "+-*/"


def size(t):
    return (
        1
        if t[0] in ("num", "x")
        else 1 + size(t[1])
        if t[0] in ("neg", "pow")
        else 1 + size(t[1]) + size(t[2])
    )


def pre(t):
    yield t
    if t[0] in ("neg", "pow"):
        yield from pre(t[1])
    elif t[0] in BIN:
        yield from pre(t[1])
        yield from pre(t[2])


def replace(t, n, new):
    if n == 0:
        return new
    if t[0] == "neg":
        return ("neg", replace(t[1], n - 1, new))
    if t[0] == "pow":
        return ("pow", replace(t[1], n - 1, new), t[2])
    k = size(t[1])
    if n <= k:
        return (t[0], replace(t[1], n - 1, new), t[2])
    return (t[0], t[1], replace(t[2], n - 1 - k, new))


def show(t):
    k = t[0]
    if k == "num":
        return str(t[1])
    if k == "x":
        return "x"

    def br(u, c):
        return "(" + show(u) + ")" if c else show(u)

    add = ("+", "-", "neg")
    if k == "neg":
        return "-" + br(t[1], t[1][0] in add)
    if k == "pow":
        return br(t[1], t[1][0] not in ("num", "x")) + "^" + str(t[2])
    if k in "+-":
        return show(t[1]) + k + br(t[2], t[2][0] in add)
    return br(t[1], t[1][0] in add) + k + br(t[2], t[2][0] in add + ("*", "/"))


def law(t, l):
    k = t[0]
    two = k in BIN
    if l == 0:
        return (k, t[2], t[1]) if k in ("+", "*") else None
    if l == 1:
        return (k, t[1][1], (k, t[1][2], t[2])) if k in ("+", "*") and t[1][0] == k else None
    if l == 2:
        return (k, (k, t[1], t[2][1]), t[2][2]) if k in ("+", "*") and t[2][0] == k else None
    if l == 3:
        return (
            (t[2][0], ("*", t[1], t[2][1]), ("*", t[1], t[2][2]))
            if k == "*" and t[2][0] in ("+", "-")
            else None
        )
    if l == 4:
        return (
            ("*", t[1][1], (k, t[1][2], t[2][2]))
            if k in ("+", "-") and t[1][0] == "*" and t[2][0] == "*" and t[1][1] == t[2][1]
            else None
        )
    if l == 5:
        return ("+", t[1], ("neg", t[2])) if k == "-" else None
    if l == 6:
        return ("-", t[1], t[2][1]) if k == "+" and t[2][0] == "neg" else None
    if l == 7:
        return t[1][1] if k == "neg" and t[1][0] == "neg" else None
    if l == 8:
        z = ("num", 0)
        o = ("num", 1)
        if k == "+" and t[2] == z:
            return t[1]
        if k == "+" and t[1] == z:
            return t[2]
        if k == "-" and t[2] == z:
            return t[1]
        if k == "*" and t[2] == o:
            return t[1]
        if k == "*" and t[1] == o:
            return t[2]
        if k == "/" and t[2] == o:
            return t[1]
        if k == "pow" and t[2] == 1:
            return t[1]
        if k == "-" and t[1] == z:
            return ("neg", t[2])
        return None
    if l == 9:
        if k != "pow":
            return None
        if t[2] > 1:
            return ("*", t[1], ("pow", t[1], t[2] - 1))
        return ("num", 1) if t[2] == 0 else None
    if l == 10:
        if two and t[1][0] == "num" and t[2][0] == "num":
            a, b = t[1][1], t[2][1]
            if k == "/":
                return ("num", a * inv(b) % P) if b else None
            return ("num", {"+": a + b, "-": a - b, "*": a * b}[k] % P)
        if k == "neg" and t[1][0] == "num":
            return ("num", -t[1][1] % P)
        if k == "pow" and t[1][0] == "num":
            return ("num", pow(t[1][1], t[2], P))
        return None
    if l == 11:
        if k == "*" and t[1][0] == "/":
            return ("/", ("*", t[1][1], t[2]), t[1][2])
        if k == "/" and t[1][0] == "/":
            return ("/", t[1][1], ("*", t[1][2], t[2]))
    return None


def simplify(t):
    rows = []
    while True:
        ns = list(pre(t))
        for n in range(len(ns) - 1, -1, -1):
            l = next((l for l in (7, 8, 10) if law(ns[n], l) is not None), None)
            if l is not None:
                t = replace(t, n, law(ns[n], l))
                rows.append((n, l))
                break
        else:
            return t, rows


def worth(t):
    k = t[0]
    if k == "num":
        return W(tr((t[1],)))
    if k == "x":
        return W(X)
    p = Parser("", False)
    if k == "neg":
        a = worth(t[1])
        return (tr([-x for x in a[0]]), a[1])
    if k == "pow":
        a = worth(t[1])
        n = t[2]
        if n * max(deg(a[0]), deg(a[1])) > 40:
            raise Fault(5, 0)
        return frac(ppow(a[0], n), ppow(a[1], n))
    a = worth(t[1])
    b = worth(t[2])
    return p.op(k, a, b, 0)


class E(Exception):
    def __init__(s, n):
        s.n = n


IO, IA, AR, IS = E("IOOBE"), E("IAE"), E("AE"), E("ISE")


class Ref:
    def __init__(s):
        s.th = []
        s.text = ""
        s.fl = 0
        s.pl = -1
        s.tk = []
        s.rw = []
        s.ct = [""] * 16
        s.entered = [0] * 16
        s.wt = [-1] * 16
        s.clock = 1
        s.cv = [None] * 16
        s.nw = 0

    def h(s, *hs):
        for h in hs:
            if not 0 <= h < len(s.th):
                raise IO
        return [s.th[h] for h in hs] if len(hs) > 1 else s.th[hs[0]]

    def fr(s, f):
        k, v = s.h(f)
        if k != 0:
            raise IA
        return v

    def kd(s, f, k):
        kk, v = s.h(f)
        if kk != k:
            raise IA
        return v

    def wh(s, *fs):
        r = []
        for t in [s.h(*fs)] if len(fs) == 1 else s.h(*fs):
            if t[0] != 0 or t[1][1] != (1,):
                raise IA
            r.append(t[1][0])
        return r if len(r) > 1 else r[0]

    def room(s):
        if len(s.th) >= 150:
            raise IS

    def keep(s, k, v):
        s.room()
        if k == 0 and great(v):
            raise IS
        if k == 2 and any(deg(x) > 10 for r in v for x in r):
            raise IS
        if k == 3 and size(v) > 200:
            raise IS
        s.th.append((k, v))
        return len(s.th) - 1

    def type(s, w):
        b = [x for x in (w & (2**64 - 1)).to_bytes(8, "big") if x]
        if len(s.text) + len(b) > 200:
            return -1
        s.text += "".join(map(chr, b))
        return len(s.text)

    def handle(s, h):
        return s.th[h][1] if h < len(s.th) and s.th[h][0] == 0 else None

    def read(s):
        s.room()
        t = s.text
        s.text = ""
        try:
            f = Parser(t, False, hand=s.handle).whole()
        except Fault as e:
            s.fl, s.pl = e.args
            raise IA
        s.fl, s.pl = 0, -1
        return s.keep(0, f)

    def fault(s, w):
        return s.fl if w == 0 else s.pl if w == 1 else -1

    def shown(s, f):
        k, v = s.h(f)
        if k == 0:
            return show_frac(v)
        if k == 3:
            return show(v)
        raise IA

    def printed(s, f):
        return len(s.shown(f))

    def letter(s, f, i):
        t = s.shown(f)
        return ord(t[i]) if 0 <= i < len(t) else -1

    def number(s, v):
        return s.keep(0, W(tr((v,))))

    def arith(s, f, g, op):
        (k, a), (l, b) = s.h(f, g)
        if k != l or k == 3:
            raise IA
        if k == 0:
            if op == "/" and not b[0]:
                raise AR
            return s.keep(
                0,
                {
                    "+": lambda: fadd(a, b),
                    "-": lambda: fadd(a, b, -1),
                    "*": lambda: fmul(a, b),
                    "/": lambda: fdiv(a, b),
                }[op](),
            )
        if k == 1:
            if op == "/":
                if b[0] == 0:
                    raise AR
                return s.keep(1, sdiv(a, b))
            return s.keep(1, smul(a, b) if op == "*" else sadd(a, b, 1 if op == "+" else -1))
        if op == "/":
            raise IA
        if op == "*":
            if len(a[0]) != len(b):
                raise IA
            r = [
                [
                    functools.reduce(padd, [pmul(a[i][x], b[x][j]) for x in range(len(b))])
                    for j in range(len(b[0]))
                ]
                for i in range(len(a))
            ]
        else:
            if len(a) != len(b) or len(a[0]) != len(b[0]):
                raise IA
            r = [[padd(x, y, 1 if op == "+" else -1) for x, y in zip(p, q)] for p, q in zip(a, b)]
        return s.keep(2, r)

    def add(s, f, g):
        return s.arith(f, g, "+")

    def less(s, f, g):
        return s.arith(f, g, "-")

    def times(s, f, g):
        return s.arith(f, g, "*")

    def over(s, f, g):
        return s.arith(f, g, "/")

    def power(s, f, n):
        a = s.fr(f)
        if not 0 <= n <= 99:
            raise IA
        if n * max(deg(a[0]), deg(a[1])) > 40:
            raise IS
        return s.keep(0, frac(ppow(a[0], n), ppow(a[1], n)))

    def derive(s, f):
        k, a = s.h(f)
        if k == 0:
            return s.keep(0, fder(a))
        if k == 1:
            return s.keep(1, sder(a))
        raise IA

    def put(s, f, g):
        (k, a), (l, b) = s.h(f, g)
        if k != l or k > 1:
            raise IA
        if k == 1:
            if b[0]:
                raise IA
            return s.keep(1, sput(a, b))
        if max(deg(b[0]), deg(b[1])) <= 0:
            c = b[0][0] if b[0] else 0
            if pval(a[1], c) == 0:
                raise AR
        if max(deg(a[0]), deg(a[1])) * max(deg(b[0]), deg(b[1])) > 200:
            raise IS

        def ev(p):
            r = F0
            for x in reversed(p):
                r = fadd(fmul(r, b), W(tr((x,))))
            return r

        return s.keep(0, fdiv(ev(a[0]), ev(a[1])))

    def val(s, a, v):
        b = pval(a[1], v % P)
        return -1 if b == 0 else pval(a[0], v % P) * inv(b) % P

    def value(s, f, v):
        return s.val(s.fr(f), v)

    def common(s, f, g):
        a, b = s.wh(f, g)
        if not a and not b:
            raise IA
        return s.keep(0, W(pgcd(a, b)))

    def resultant(s, f, g):
        a, b = s.wh(f, g)
        if not a or not b:
            raise IA
        m, n = deg(a), deg(b)
        N = m + n
        M = [[0] * i + list(reversed(a)) + [0] * (n - 1 - i) for i in range(n)] + [
            [0] * i + list(reversed(b)) + [0] * (m - 1 - i) for i in range(m)
        ]
        d = 1
        for c in range(N):
            k = next((i for i in range(c, N) if M[i][c]), None)
            if k is None:
                return 0
            if k != c:
                M[c], M[k] = M[k], M[c]
                d = -d
            d = d * M[c][c] % P
            l = inv(M[c][c])
            for i in range(c + 1, N):
                if M[i][c]:
                    f_ = M[i][c] * l % P
                    M[i] = [(x - f_ * y) % P for x, y in zip(M[i], M[c])]
        return d % P

    def divided(s, f, g, w):
        a, b = s.wh(f, g)
        if w not in (0, 1):
            raise IA
        if not b:
            raise AR
        return s.keep(0, W(pdivmod(a, b)[w]))

    def combined(s, f, g, w):
        a, b = s.wh(f, g)
        if w not in (0, 1) or not a and not b:
            raise IA
        d = pgcd(a, b)
        if not b:
            S, T = pdivmod(d, a)[0], ()
        else:
            G = pdivmod(b, d)[0]
            S = pdivmod(pexgcd(a, b)[1], G)[1]
            T, l = pdivmod(padd(d, pmul(S, a), -1), b)
            assert not l
        return s.keep(0, W([S, T][w]))

    def least(s, f, g):
        a, b = s.wh(f, g)
        if deg(b) < 1:
            raise IA
        cols = []
        pw = pdivmod((1,), b)[1]
        while True:
            sol, _ = solve(cols, pw)
            if sol is not None:
                return s.keep(0, W(tr([-x for x in sol] + [1])))
            cols.append(pw)
            pw = pdivmod(pmul(pw, a), b)[1]

    def factors(s, f):
        return len(ffactors(s.fr(f)))

    def fk(s, f, k):
        fs = ffactors(s.fr(f))
        if not 0 <= k < len(fs):
            raise IO
        return fs[k]

    def factor(s, f, k):
        return s.keep(0, W(s.fk(f, k)[0]))

    def often(s, f, k):
        return s.fk(f, k)[1]

    def remainder(s, f):
        a = s.fr(f)
        return s.keep(0, W(pdivmod(*a)[0]))

    def part(s, f, k, j):
        a = s.fr(f)
        if a[1] == (1,):
            raise IO
        r, ps = parts(a)
        if (k, j) not in ps:
            raise IO
        return s.keep(0, W(ps[k, j]))

    def core(s, f):
        return s.keep(0, corerest(s.fr(f))[0])

    def rest(s, f):
        return s.keep(0, corerest(s.fr(f))[1])

    def log(s, f, k):
        r = corerest(s.fr(f))[1]
        if r[1] == (1,):
            raise IO
        fs = factorize(r[1])
        if not 0 <= k < len(fs):
            raise IO
        p = fs[k][0]
        c = parts(r)[1][k, 1]
        dp = pder(p)
        if len(c) != len(dp):
            return -1
        x = c[-1] * inv(dp[-1]) % P
        return x if tr([x * y for y in dp]) == c else -1

    def integral(s, f):
        k, a = s.h(f)
        if k == 1:
            return s.keep(1, sint(a))
        if k != 0:
            raise IA
        c, r = corerest(a)
        s.room()
        return -1 if r[0] else s.keep(0, c)

    def closed(s, f):
        F = s.fr(f)
        if not F[0]:
            raise IA
        s.room()
        a, b = F
        d = (1,)
        for h in range(21):
            g = pgcd(a, pshift(b, h))
            a = pdivmod(a, g)[0]
            b = pdivmod(b, pshift(g, -h))[0]
            for i in range(1, h + 1):
                d = pmul(d, pshift(g, -i))
        b1 = pshift(b, -1)

        def L(i):
            x = (0,) * i + (1,)
            return padd(pmul(a, pshift(x, 1)), pmul(b1, x), -1)

        cols = [L(i) for i in range(21)]
        for e in range(21):
            sol, _ = solve(cols[: e + 1], d)
            if sol is not None:
                return s.keep(0, frac(pmul(b1, tr(sol)), d))
        return -1

    def term(s, f, n):
        a = s.fr(f)
        if not a[0] or not 0 <= n <= 60:
            raise IA
        t = 1
        for i in range(n):
            v = s.val(a, i)
            if v < 0:
                raise AR
            t = t * v % P
        return t

    def sum(s, f, n):
        a = s.fr(f)
        if not a[0] or not 0 <= n <= 60:
            raise IA
        return sum(s.term(f, i) for i in range(n)) % P

    def series(s, f):
        a = s.fr(f)
        if a[1][0] == 0:
            raise AR
        return s.keep(1, sdiv(ser(a[0]), ser(a[1])))

    def exponential(s, f):
        a = s.kd(f, 1)
        if a[0]:
            raise IA
        return s.keep(1, sexp(a))

    def logarithm(s, f):
        a = s.kd(f, 1)
        if a[0] != 1:
            raise IA
        return s.keep(1, slog(a))

    def reverse(s, f):
        a = s.kd(f, 1)
        if a[0] or not a[1]:
            raise IA
        return s.keep(1, srev(a))

    def root(s, f):
        a = s.kd(f, 1)
        r = sroot(a)
        if r is None:
            raise IA
        return s.keep(1, r)

    def guess(s, f):
        a = s.kd(f, 1)
        s.room()
        r = sguess(a)
        return -1 if r is None else s.keep(0, r)

    def take(s, f):
        a = s.wh(f)
        if deg(a) > 10:
            raise IA
        if len(s.tk) >= 16:
            return -1
        s.tk.append(a)
        return len(s.tk)

    def matrix(s, r, c):
        if not (1 <= r <= 4 and 1 <= c <= 4 and r * c == len(s.tk)):
            raise IA
        s.room()
        m = [s.tk[i * c : i * c + c] for i in range(r)]
        s.tk = []
        return s.keep(2, m)

    def entry(s, m, i, j):
        a = s.kd(m, 2)
        if not (0 <= i < len(a) and 0 <= j < len(a[0])):
            raise IO
        return s.keep(0, W(a[i][j]))

    def turned(s, m):
        a = s.kd(m, 2)
        return s.keep(2, [list(r) for r in zip(*a)])

    def sq(s, m):
        a = s.kd(m, 2)
        if len(a) != len(a[0]):
            raise IA
        return a

    def determinant(s, m):
        return s.keep(0, W(det(s.sq(m))))

    def rank(s, m):
        return rank(s.kd(m, 2))

    def invariant(s, m, k):
        a = s.kd(m, 2)
        if not 0 <= k < rank(a):
            raise IO
        g = lambda n: (1,) if n == 0 else functools.reduce(pgcd, minors(a, n), ())
        return s.keep(0, W(pdivmod(g(k + 1), g(k))[0]))

    def own(s, m):
        a = s.sq(m)
        return s.keep(
            2, [[padd(X if i == j else (), a[i][j], -1) for j in range(len(a))] for i in range(len(a))]
        )

    def adjoint(s, m):
        a = s.sq(m)
        n = len(a)
        return s.keep(
            2,
            [
                [
                    tr(
                        [
                            x * (-1) ** (i + j)
                            for x in det([[a[r][c] for c in range(n) if c != i] for r in range(n) if r != j])
                        ]
                    )
                    for j in range(n)
                ]
                for i in range(n)
            ],
        )

    def companion(s, f):
        a = s.wh(f)
        n = deg(a)
        if not 1 <= n <= 4 or a[-1] != 1:
            raise IA
        M = [[() for _ in range(n)] for _ in range(n)]
        for i in range(n - 1):
            M[i + 1][i] = (1,)
        for i in range(n):
            M[i][n - 1] = tr((-a[i],))
        return s.keep(2, M)

    def within(s, f, m):
        (k, v), (l, a) = s.h(f, m)
        if k != 0 or v[1] != (1,) or l != 2 or len(a) != len(a[0]) or any(deg(x) > 0 for r in a for x in r):
            raise IA
        n = len(a)
        A = [[x[0] if x else 0 for x in r] for r in a]
        pw = [[int(i == j) for j in range(n)] for i in range(n)]
        S = [[0] * n for _ in range(n)]
        for c in v[0]:
            S = [[(S[i][j] + c * pw[i][j]) % P for j in range(n)] for i in range(n)]
            pw = [[sum(pw[i][k] * A[k][j] for k in range(n)) % P for j in range(n)] for i in range(n)]
        return s.keep(2, [[tr((x,)) for x in r] for r in S])

    def solved(s, m, j):
        a = s.kd(m, 2)
        if not 0 <= j < len(a[0]) - 1:
            raise IO
        s.room()
        r = fsolve(a)
        return -1 if r is None else s.keep(0, r[j])

    def rl(s, m, how=0):
        k, a = m
        if k != 2 or len(a) != 1 or not a[0][-1]:
            raise IA
        if how not in (0, 1):
            raise IA
        return a[0]

    def made(s, m, how, f):
        M, (k, a) = s.h(m, f)
        r = s.rl(M, how)
        if k == 1 and how == 1:
            t = ser(())
            for p in r:
                t = sadd(t, smul(ser(p), a))
                a = sder(a)
            return s.keep(1, t)
        if k != 0:
            raise IA
        t = F0
        for i, p in enumerate(r):
            t = fadd(t, fmul(W(p), fshift(a, i) if how == 0 else a))
            if how == 1:
                a = fder(a)
        return s.keep(0, t)

    def img(s, r, how, q):
        t = ()
        for i, p in enumerate(r):
            t = padd(t, pmul(p, pshift(q, i) if how == 0 else q))
            if how == 1:
                q = pder(q)
        return t

    def ans(s, r, how):
        return nullspace([s.img(r, how, (0,) * i + (1,)) for i in range(21)])

    def answers(s, m, how):
        r = s.rl(s.h(m), how)
        return len(s.ans(r, how))

    def answer(s, m, how, k):
        r = s.rl(s.h(m), how)
        b = s.ans(r, how)
        if not 0 <= k < len(b):
            raise IO
        return s.keep(0, W(tr(b[k])))

    def meet(s, m, how, f):
        M, (k, a) = s.h(m, f)
        r = s.rl(M, how)
        if k != 0 or a[1] != (1,):
            raise IA
        s.room()
        sol, _ = solve([s.img(r, how, (0,) * i + (1,)) for i in range(21)], a[0])
        return -1 if sol is None else s.keep(0, W(tr(sol)))

    def unroll(s, m, f):
        M, (k, a) = s.h(m, f)
        r = s.rl(M)
        if k != 1:
            raise IA
        o = len(r) - 1
        t = list(a[:o])
        for n in range(25 - o):
            l = pval(r[-1], n)
            if l == 0:
                raise AR
            t.append(-sum(pval(r[i], n) * t[n + i] for i in range(o)) * inv(l) % P)
        return s.keep(1, tuple(t))

    def obeys(s, m, f):
        M, (k, a) = s.h(m, f)
        r = s.rl(M)
        if k != 1:
            raise IA
        return int(
            all(sum(pval(r[i], n) * a[n + i] for i in range(len(r))) % P == 0 for n in range(25 - len(r) + 1))
        )

    def fit(s, m, f):
        M, (k, a) = s.h(m, f)
        r = s.rl(M)
        if k != 0:
            raise IA
        t = F0
        q = F1
        for i, p in enumerate(r):
            t = fadd(t, fmul(W(p), q))
            q = fmul(q, fshift(a, i))
        return s.keep(0, t)

    def rule(s, f, r, d):
        a = s.kd(f, 1)
        if not 0 <= r <= 3 or not 0 <= d <= 4:
            raise IA
        s.room()
        cols = []
        names = []
        for i in range(r, -1, -1):
            for j in range(d, -1, -1):
                names.append((i, j))
                cols.append(tuple(pow(n, j, P) * a[n + i] % P for n in range(25 - r)))
        B = nullspace(cols)
        if not B:
            return -1
        # echelon by first nonzero entries
        best = None
        while B:
            B = [v for v in B if any(v)]
            if not B:
                break
            fi = min(next(i for i, x in enumerate(v) if x) for v in B)
            v = next(v for v in B if v[fi])
            B.remove(v)
            l = inv(v[fi])
            v = [x * l % P for x in v]
            best = v
            B = [[(x - w[fi] * y) % P for x, y in zip(w, v)] for w in B]
        polys = [[0] * (d + 1) for _ in range(r + 1)]
        for (i, j), x in zip(names, best):
            polys[i][j] = x
        polys = [tr(p) for p in polys]
        while not polys[-1]:
            polys.pop()
        return s.keep(2, [polys])

    def recur(s, m):
        r = s.rl(s.h(m))
        q = {(i, j): c for i, p in enumerate(r) for j, c in enumerate(p) if c}
        l = min(i - j for i, j in q)
        u = max(i - j for i, j in q)
        if u - l > 3:
            raise IS
        out = []
        for k in range(u - l + 1):
            t = ()
            for (i, j), c in q.items():
                if i - j == l + k:
                    w = (c,)
                    for z in range(i):
                        w = pmul(w, tr((k - z, 1)))
                    t = padd(t, w)
            out.append(t)
        return s.keep(2, [out])

    def formula(s):
        s.room()
        t = s.text
        s.text = ""
        try:
            f = Parser(t, True).whole()
        except Fault as e:
            s.fl, s.pl = e.args
            raise IA
        s.fl, s.pl = 0, -1
        return s.keep(3, f)

    def written(s, f):
        t = show_frac(s.fr(f))
        return s.keep(3, Parser(t, True).whole())

    def worth(s, f):
        t = s.kd(f, 3)
        try:
            v = worth(t)
        except Fault as e:
            raise AR if e.args[0] == 4 else IS
        return s.keep(0, v)

    def nodes(s, f):
        return size(s.kd(f, 3))

    def node(s, f, n, w):
        t = s.kd(f, 3)
        if not 0 <= n < size(t):
            raise IO
        if not 0 <= w <= 3:
            raise IA
        u = list(pre(t))[n]
        k = u[0]
        if w == 0:
            return {"num": 0, "x": 1, "+": 2, "-": 3, "*": 4, "/": 5, "neg": 6, "pow": 7}[k]
        if w == 1:
            return u[1] if k == "num" else u[2] if k == "pow" else 0
        if w == 2:
            return -1 if k in ("num", "x") else n + 1
        return n + 1 + size(u[1]) if k in BIN else -1

    def change(s, f, n, l):
        t = s.kd(f, 3)
        if not 0 <= n < size(t):
            raise IO
        new = law(list(pre(t))[n], l)
        if new is None:
            raise IA
        return s.keep(3, replace(t, n, new))

    def simple(s, f):
        t = s.kd(f, 3)
        s.room()
        t, s.rw = simplify(t)
        return s.keep(3, t)

    def rows(s):
        return len(s.rw)

    def row(s, k, w):
        return s.rw[k][w] if 0 <= k < len(s.rw) and w in (0, 1) else -1

    def claim(s):
        t = s.text
        s.text = ""
        try:
            a, b = Parser(t, False, hand=s.handle, cell=s.askval, claim=True).whole()
        except Fault as e:
            s.fl, s.pl = e.args
            raise IA
        s.fl, s.pl = 0, -1
        return int(a == b)

    def hang(s, c):
        seen = set()
        st = [c]
        while st:
            d = st.pop()
            for ch in s.ct[d]:
                if "A" <= ch <= "P" and ord(ch) - 65 not in seen:
                    seen.add(ord(ch) - 65)
                    st.append(ord(ch) - 65)
        return seen

    def ask(s, c):
        h = s.hang(c)
        if s.ct[c] == "" or c in h:
            return
        if s.wt[c] > max([s.entered[c]] + [s.entered[d] for d in h]):
            return
        for d in range(16):
            if chr(65 + d) in s.ct[c]:
                s.ask(d)
        s.nw += 1
        s.clock += 1
        s.wt[c] = s.clock
        try:
            s.cv[c] = ("v", Parser(s.ct[c], False, cell=s.got).whole())
        except Fault as e:
            s.cv[c] = ("f",) + e.args

    def got(s, c):
        if s.ct[c] == "" or c in s.hang(c):
            return None
        return s.cv[c][1] if s.cv[c][0] == "v" else None

    def askval(s, c):
        s.ask(c)
        return s.got(c)

    def enter(s, c):
        if not 0 <= c < 16:
            raise IO
        if len(s.text) > 60:
            raise IA
        s.ct[c] = s.text
        s.text = ""
        s.clock += 1
        s.entered[c] = s.clock
        return len(s.ct[c])

    def cell(s, c, w):
        if not 0 <= c < 16:
            raise IO
        if not 0 <= w <= 3:
            raise IA
        if w == 3:
            return len(s.hang(c))
        s.ask(c)
        if s.ct[c] == "":
            return [0, 0, -1][w]
        if c in s.hang(c):
            return [2, 8, 0][w]
        v = s.cv[c]
        return [1, 0, -1][w] if v[0] == "v" else [2, v[1], v[2]][w]

    def get(s, c):
        if not 0 <= c < 16:
            raise IO
        v = s.askval(c)
        if v is None:
            raise IA
        return s.keep(0, v)

    def worked(s):
        return s.nw

    def kind(s, f):
        return s.h(f)[0]

    def degree(s, f, p):
        k, v = s.h(f)
        if k == 3 or p not in (0, 1):
            raise IA
        if k == 0:
            return deg(v[p])
        if k == 2:
            return len(v) if p == 0 else len(v[0])
        return 24 if p else next((i for i in range(25) if v[i]), 25)

    def at(s, f, p, n):
        k, v = s.h(f)
        if k > 1 or p not in (0, 1):
            raise IA
        q = v[p] if k == 0 else v
        return q[n] if 0 <= n < len(q) else 0

    def same(s, f, g):
        a, b = s.h(f, g)
        return int(a == b)

    def count(s):
        return len(s.th)

    def clear(s):
        s.th = []
        s.tk = []
        s.text = ""
        return 0
