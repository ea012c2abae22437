"""Runs of calls by chance: what they are and what the model answers.

    python3 runs.py write          makes src/test/data/runs.txt anew
    python3 runs.py compare 100    compares 100 runs of each sort with the class (javac, java)
"""
import inspect
import os
import random
import subprocess
import sys
import tempfile
from model import *

HERE = os.path.dirname(os.path.abspath(__file__))
ROOT = os.path.join(HERE, "..", "..", "..")


class Run:
    def __init__(s, seed):
        s.r = random.Random(seed)
        s.x = Ref()
        s.log = ["new"]
        s.out = ["new"]
        s.n = 0

    def call(s, name, *a):
        s.n += 1
        s.log.append(" ".join([name] + [str(v) for v in a]))
        try:
            o = getattr(s.x, name)(*a)
        except E as e:
            o = e.n
        s.out.append(str(int(o)) if not isinstance(o, str) else o)
        return o

    def typ(s, t):
        b = t.encode("latin1")
        for i in range(0, len(b), 8):
            v = int.from_bytes(b[i : i + 8], "big")
            if v >= 2**63:
                v -= 2**64
            s.call("type", v)

    def handles(s, k):
        return [i for i, t in enumerate(s.x.th) if t[0] == k]

    def pick(s, k, whole=None, bad=0.04):
        r = s.r
        if r.random() < bad:
            return r.choice([-1, len(s.x.th), r.randint(0, max(0, len(s.x.th) - 1)), 149, 150])
        hs = s.handles(k)
        if whole:
            hs = [h for h in hs if s.x.th[h][1][1] == (1,)] or hs
        if whole == "small":
            hs = [h for h in hs if deg(s.x.th[h][1][0]) <= 10] or hs
        if not hs:
            return 0
        return r.choice(hs[-12:]) if r.random() < 0.7 else r.choice(hs)

    # texts
    def num(s):
        return str(
            s.r.choice(
                [
                    0,
                    1,
                    1,
                    2,
                    2,
                    3,
                    4,
                    5,
                    7,
                    s.r.randint(0, 20),
                    s.r.randint(0, 32002),
                    s.r.randint(0, 999999),
                    "007",
                    "32003",
                    "32002",
                ]
            )
        )

    def expr(s, d, o):
        r = s.r

        def atom(d):
            q = r.random()
            if d <= 0 or q < 0.55:
                q = r.random()
                if q < 0.5:
                    return "x"
                if q < 0.8:
                    return s.num()
                if o.get("hand") and q < 0.9 and s.x.th:
                    return "#%d" % r.randint(0, len(s.x.th) if r.random() < 0.1 else len(s.x.th) - 1)
                if o.get("cell") and q < 0.98:
                    return chr(65 + r.choice(o["cell"]))
                return "x"
            return "(" + sum_(d - 1) + ")"

        def power(d):
            a = atom(d)
            if r.random() < 0.3:
                a += "^" + str(r.choice([0, 1, 2, 2, 2, 3, 3, 4, 5, 8, r.randint(0, 99)]))
            return a

        def term(d):
            a = power(d)
            while r.random() < 0.35:
                a += r.choice("***/") + power(d)
            return a

        def sum_(d):
            a = ("-" if r.random() < 0.15 else "") + term(d)
            while r.random() < 0.4:
                a += r.choice("+-") + term(d)
            return a

        return sum_(d)

    def mutate(s, t):
        r = s.r
        for _ in range(r.choice([1, 1, 2])):
            i = r.randint(0, len(t))
            c = r.choice("x0123456789+-*/^()#=AB.y \xff" + "x^()*/")
            q = r.random()
            t = t[:i] + c + t[i:] if q < 0.4 else t[:i] + t[i + 1 :] if q < 0.7 else t[:i] + c + t[i + 1 :]
        return t

    def poly(s, d):
        r = s.r
        return (
            "+".join(
                "%d*x^%d" % (r.randint(0, 32002) if r.random() < 0.5 else r.randint(0, 5), i)
                for i in range(d, -1, -1)
                if r.random() < 0.8
            )
            or "0"
        )

    def prodpoly(s, maxd):
        r = s.r
        t = []
        d = 0
        while d < maxd and len(t) < 8:
            e = r.choice([1, 1, 1, 2, 2, 3, 4])
            k = r.choice([1, 1, 1, 2, 3])
            if d + e * k > maxd:
                break
            d += e * k
            f = (
                "x"
                if r.random() < 0.15
                else "x^%d%+d" % (e, r.randint(-6, 6))
                if r.random() < 0.5
                else "x%+d" % r.randint(-4, 4)
                if e == 1
                else "(" + s.poly(e) + ")"
            )
            t.append("(%s)" % f + ("^%d" % k if k > 1 else ""))
            if r.random() < 0.2:
                break
        return "*".join(t) or "1"

    def mkfrac(s, t):
        s.typ(t[:200])
        return s.call("read")

    def fracs(s):
        r = s.r
        q = r.random()
        if q < 0.3:
            s.mkfrac(s.expr(2, {"hand": 1}))
        elif q < 0.4:
            s.mkfrac(s.mutate(s.expr(2, {"hand": 1})))
        elif q < 0.6:
            s.mkfrac(s.prodpoly(r.choice([3, 6, 12, 30])))
        elif q < 0.8:
            s.mkfrac("(%s)/(%s)" % (s.poly(r.randint(0, 6)), s.prodpoly(r.choice([2, 4, 8, 20]))))
        elif q < 0.9:
            s.mkfrac(s.poly(r.choice([1, 2, 3, 5, 10])))
        else:
            s.call(
                "number",
                r.choice([0, 1, -1, 2, r.randint(-(2**63), 2**63 - 1), 32003, r.randint(0, 32002)]),
            )
        if r.random() < 0.1:
            s.call("fault", r.randint(-1, 2))

    def tell(s, h):
        r = s.r
        if not isinstance(h, int) or h < 0 or h >= len(s.x.th):
            return
        k, v = s.x.th[h]
        if k == 0 or k == 3:
            t = s.x.shown(h)
            s.call("printed", h)
            for i in r.sample(range(len(t)), min(len(t), r.choice([2, 5, 12]))):
                s.call("letter", h, i)
            if r.random() < 0.1:
                s.call("letter", h, len(t))
                s.call("letter", h, -1)
        if k == 0:
            s.call("degree", h, 0)
            s.call("degree", h, 1)
            for p in (0, 1):
                for i in r.sample(range(-1, 42), 4) + [max(0, deg(v[p]))]:
                    s.call("at", h, p, i)
        if k == 1:
            s.call("degree", h, 0)
            for i in r.sample(range(-1, 26), 4) + [24]:
                s.call("at", h, 0, i)
        if k == 2:
            s.call("degree", h, 0)
            s.call("degree", h, 1)
            i, j = r.randint(0, len(v) - 1), r.randint(0, len(v[0]) - 1)
            e = s.call("entry", h, i, j)
            s.tell(e)
        if k == 3:
            s.call("nodes", h)
            for i in range(4):
                s.call("node", h, r.randint(0, size(v) - 1), r.randint(0, 3))

    def mat(s):
        r = s.r
        rows, cols = r.choice(
            [
                (1, 1),
                (2, 2),
                (3, 3),
                (4, 4),
                (1, 2),
                (1, 3),
                (1, 4),
                (2, 3),
                (3, 4),
                (2, 4),
                (3, 2),
                (4, 1),
                (4, 3),
            ]
        )
        hs = []
        if r.random() < 0.5:
            for _ in range(3):
                hs.append(s.call("number", r.choice([0, 0, 1, 2, -1, r.randint(0, 32002)])))
            hs.append(s.mkfrac(s.r.choice(["x", "x-1", "x^2-1", "x+%d" % r.randint(0, 9), s.poly(2)])))
            if r.random() < 0.3:
                hs = hs[:3]
        else:
            hs = None
        for _ in range(rows * cols + (r.random() < 0.03)):
            s.call(
                "take",
                s.pick(0, "small", bad=0.01)
                if hs is None
                else r.choice([h for h in hs if isinstance(h, int)] or [0]),
            )
        h = s.call("matrix", rows, cols)
        if not isinstance(h, int):
            return None
        return h

    def rulem(s):
        r = s.r
        n = r.randint(1, 4)
        for i in range(n):
            q = r.random()
            h = (
                s.call("number", r.choice([0, 1, -1, 2, 3]))
                if q < 0.45
                else s.mkfrac(
                    r.choice(["x", "x+1", "x-1", "-x", "x^2", "2*x+1", "x^2-x", s.poly(r.choice([1, 2, 3]))])
                )
            )
            if isinstance(h, int):
                s.call("take", h)
        return s.call("matrix", 1, n)

    def ser_(s):
        r = s.r
        q = r.random()
        if q < 0.4:
            h = s.mkfrac(
                "(%s)/(%s)"
                % (
                    s.poly(r.choice([0, 1, 3, 8, 11, 12])),
                    r.choice(
                        [
                            "1",
                            "1-x",
                            "1-x-x^2",
                            "x^2+%d" % r.randint(0, 9),
                            s.poly(r.choice([2, 5, 11, 12, 13])),
                        ]
                    ),
                )
            )
        elif q < 0.6:
            h = s.mkfrac("x*(%s)/(1+x*(%s))" % (s.poly(r.choice([0, 2, 5])), s.poly(r.choice([0, 1, 4]))))
        elif q < 0.75:
            h = s.mkfrac("1+x*(%s)" % s.poly(r.choice([0, 2, 5])))
        else:
            h = s.pick(0)
        if isinstance(h, int):
            return s.call("series", h)


def mixed(seed, calls=300, only=None):
    R = Run(seed)
    r = R.r
    groups = ["arith", "factor", "calc", "terms", "series", "matrix", "rules", "formula", "sheet", "text"]
    ws = [r.random() ** 3 + 0.05 for _ in groups]
    if only:
        ws = [1 if g in only else 0.02 for g in groups]
    while R.n < calls:
        g = r.choices(groups, ws)[0]
        P_ = R.pick
        if len(R.x.th) < 3 and g not in ("sheet", "formula"):
            R.fracs()
        if len(R.x.th) >= 145 and r.random() < 0.5:
            if r.random() < 0.3:
                R.call("clear")
                R.call("count")
        if r.random() < 0.02:
            R.call("count")
        if g == "arith":
            if r.random() < 0.4:
                R.fracs()
            q = r.choice(
                [
                    "add",
                    "less",
                    "times",
                    "over",
                    "power",
                    "derive",
                    "put",
                    "value",
                    "common",
                    "resultant",
                    "divided",
                    "combined",
                    "least",
                    "same",
                    "kind",
                    "degree",
                    "at",
                ]
            )
            w = q in ("common", "resultant", "divided", "combined", "least")
            k = 0
            if q in ("add", "less", "times", "over", "put", "same") and r.random() < 0.05:
                k = r.choice([1, 2, 3])
            f = P_(k, w)
            gg = P_(k, w)
            if q == "power":
                h = R.call(q, f, r.choice([0, 1, 2, 3, 4, 5, 10, 99, 100, -1]))
            elif q == "derive":
                h = R.call(q, f)
            elif q == "value":
                h = None
                R.call(q, f, r.choice([r.randint(-5, 5), r.randint(-(2**63), 2**63 - 1)]))
            elif q in ("divided", "combined"):
                h = R.call(q, f, gg, r.choice([0, 1, 0, 1, 0, 1, 2]))
            elif q == "kind":
                R.call(q, f)
                h = None
            elif q == "degree":
                R.call(q, f, r.randint(-1, 2))
                h = None
            elif q == "at":
                R.call(q, f, r.randint(-1, 2), r.randint(-2, 45))
                h = None
            elif q in ("resultant", "same"):
                R.call(q, f, gg)
                h = None
            else:
                h = R.call(q, f, gg)
            if h is not None:
                R.tell(h)
        elif g == "factor":
            h = (
                R.mkfrac(R.prodpoly(r.choice([5, 12, 25, 40])))
                if r.random() < 0.3
                else R.mkfrac(
                    "(%s)/(%s)" % (R.poly(r.choice([0, 2, 8])), R.prodpoly(r.choice([3, 8, 16, 40])))
                )
                if r.random() < 0.6
                else P_(0)
            )
            if not isinstance(h, int):
                continue
            n = R.call("factors", h)
            if isinstance(n, int):
                for k in range(n):
                    if r.random() < 0.6:
                        R.call("often", h, k)
                    if r.random() < 0.5:
                        R.tell(R.call("factor", h, k))
                    if r.random() < 0.7:
                        R.tell(R.call("part", h, k, r.randint(0, 3)))
                R.call(r.choice(["often", "factor"]), h, r.choice([-1, n, n + 1]))
            R.tell(R.call("remainder", h))
        elif g == "calc":
            q = r.random()
            if q < 0.4:
                h = R.mkfrac(
                    "(%s)/(%s)" % (R.poly(r.choice([0, 2, 8, 15])), R.prodpoly(r.choice([3, 8, 16, 30])))
                )
            elif q < 0.6:
                h = R.mkfrac("(%s)/(%s)" % (R.poly(r.choice([0, 2, 4])), R.prodpoly(r.choice([3, 6, 12]))))
                if isinstance(h, int):
                    h = R.call("derive", h)
            elif q < 0.8:
                # sum of logs
                h = R.mkfrac(
                    "+".join(
                        "%d/(x%+d)" % (r.randint(1, 9), r.randint(-9, 9)) for _ in range(r.randint(1, 4))
                    )
                    + "+%d*x/(x^2+1)+1/(x^2-3)" % r.randint(0, 5)
                )
            else:
                h = P_(0)
            if not isinstance(h, int):
                continue
            for q in r.sample(["core", "rest", "integral", "log", "log", "factors"], 3):
                if q == "log":
                    for k in range(-1, r.choice([1, 2, 3, 5])):
                        R.call("log", h, k)
                else:
                    t = R.call(q, h)
                    if q != "factors":
                        R.tell(t)
        elif g == "terms":
            q = r.random()
            a = r.randint(-3, 6)
            b = r.randint(-3, 6)
            if q < 0.3:
                t = "(x%+d)/(x%+d)" % (a, b)
            elif q < 0.5:
                t = (
                    "%s*(x+1)/x" % r.choice(["1", "2", "3", "(x%+d)" % a])
                    if a % 2
                    else "%d*(x+%d)/(x+%d)" % (r.randint(1, 4), abs(a) + 1, abs(b) + 1)
                )
            elif q < 0.7:
                # from a known closed form: t(n)=c(n+1)-c(n) ratio with hypergeometric r
                p = R.poly(r.choice([1, 2, 3]))
                h = R.mkfrac(p + "+1")
                if isinstance(h, int):
                    s1 = R.mkfrac("x+1")
                    if isinstance(s1, int):
                        k = R.call("put", h, s1)
                        if isinstance(k, int):
                            t = "#%d/#%d" % (k, h)
                            if r.random() < 0.5:
                                # t(n)=u(n+1)-u(n), with u(n)= h(n)*2^n : ratio
                                d = R.mkfrac("2*#%d-#%d" % (k, h))
                                if isinstance(d, int):
                                    d1 = R.call("put", d, s1)
                                    if isinstance(d1, int):
                                        t = "2*#%d/#%d" % (d1, d)
                        else:
                            t = "2"
                    else:
                        t = "1"
                else:
                    t = "x"
            elif q < 0.85:
                t = "(%s)/(%s)" % (R.prodpoly(4), R.prodpoly(4))
            else:
                t = r.choice(
                    [
                        "1",
                        "x",
                        "2",
                        "1/(x+1)",
                        "x^2/(x+1)^2",
                        "(x+1)^2/(x+2)^2",
                        "x^5",
                        "(x+20)/x",
                        "(x+21)/x",
                        "(x+10)*(x+11)/(x*(x+1))",
                        "(x+5)^3/x^3",
                        "(x+20)^3/x^3",
                        "(x^2-2*x+2)/(x^2+1)",
                    ]
                )
            h = R.mkfrac(t)
            if not isinstance(h, int):
                h = P_(0)
            R.tell(R.call("closed", h))
            R.call("term", h, r.choice([-1, 0, 1, 5, 9, 60, 61]))
            R.call("sum", h, r.choice([-1, 0, 1, 2, 7, 60, 61]))
        elif g == "series":
            if r.random() < 0.5:
                R.ser_()
            q = r.choice(
                [
                    "add",
                    "less",
                    "times",
                    "over",
                    "derive",
                    "put",
                    "exponential",
                    "logarithm",
                    "reverse",
                    "root",
                    "guess",
                    "guess",
                    "integral",
                    "degree",
                    "at",
                    "same",
                ]
            )
            f, gg = P_(1), P_(1)
            if q == "root" and r.random() < 0.6:
                t = R.call("times", f, f)
                f = t if isinstance(t, int) else f
            if q == "logarithm" and r.random() < 0.5:
                t = R.call("exponential", f)
                f = t if isinstance(t, int) else f
            if q in ("exponential", "put", "reverse") and r.random() < 0.7:
                z = [h for h in R.handles(1) if R.x.th[h][1][0] == 0]
                if z:
                    gg = f = r.choice(z)
                if q == "put":
                    f = P_(1)
            if q in ("add", "less", "times", "over", "put"):
                R.tell(R.call(q, f, gg))
            elif q == "same":
                R.call(q, f, gg)
            elif q == "degree":
                R.call(q, f, r.randint(-1, 2))
            elif q == "at":
                R.call(q, f, r.randint(-1, 2), r.randint(-1, 26))
            else:
                R.tell(R.call(q, f))
        elif g == "matrix":
            h = R.mat() if r.random() < 0.5 else P_(2)
            q = r.choice(
                [
                    "add",
                    "less",
                    "times",
                    "turned",
                    "determinant",
                    "rank",
                    "invariant",
                    "invariant",
                    "own",
                    "adjoint",
                    "companion",
                    "within",
                    "solved",
                    "solved",
                    "entry",
                    "take",
                ]
            )
            if not isinstance(h, int):
                h = P_(2)
            if q in ("add", "less", "times"):
                R.tell(R.call(q, h, P_(2) if r.random() < 0.5 else h))
            elif q == "rank":
                R.call(q, h)
            elif q in ("turned", "determinant", "own", "adjoint"):
                R.tell(R.call(q, h))
            elif q == "invariant":
                for k in range(-1, 5):
                    if r.random() < 0.6:
                        R.tell(R.call(q, h, k))
            elif q == "companion":
                t = R.mkfrac("x^%d+%s" % (r.randint(1, 5), R.poly(r.randint(0, 2))))
                R.tell(R.call(q, t if isinstance(t, int) else 0))
            elif q == "within":
                ms = [m for m in R.handles(2) if all(deg(x) <= 0 for w in R.x.th[m][1] for x in w)]
                R.tell(R.call(q, P_(0, True), r.choice(ms) if ms and r.random() < 0.8 else h))
            elif q == "solved":
                for j in range(-1, 4):
                    if r.random() < 0.7:
                        R.tell(R.call(q, h, j))
            elif q == "entry":
                R.call(q, h, r.randint(-1, 4), r.randint(-1, 4))
            elif q == "take":
                R.call(q, P_(0))
                if r.random() < 0.5:
                    R.call("matrix", r.randint(0, 5), r.randint(0, 5))
        elif g == "rules":
            m = R.rulem() if r.random() < 0.5 else P_(2)
            if not isinstance(m, int):
                m = P_(2)
            q = r.choice(
                ["made", "answers", "answer", "meet", "unroll", "obeys", "fit", "rule", "rule", "recur"]
            )
            how = r.choice([0, 1, 0, 1, 0, 1, 0, 1, 2, -1])
            if q == "made":
                R.tell(R.call(q, m, how, P_(1) if r.random() < 0.3 else P_(0)))
            elif q == "answers":
                R.call(q, m, how)
            elif q == "answer":
                n = R.call("answers", m, how)
                for k in range(-1, (n if isinstance(n, int) else 0) + 1):
                    R.tell(R.call(q, m, how, k))
            elif q == "meet":
                f = P_(0, True)
                if r.random() < 0.6:
                    t = R.call("made", m, how, f)
                    f = t if isinstance(t, int) else f
                R.tell(R.call(q, m, how, f))
            elif q in ("unroll", "obeys"):
                if r.random() < 0.4:
                    R.ser_()
                s = P_(1)
                t = R.call(q, m, s)
                R.tell(t) if q == "unroll" else None
                if q == "unroll" and isinstance(t, int):
                    R.call("obeys", m, t)
                    if r.random() < 0.5:
                        R.tell(R.call("rule", t, r.randint(0, 3), r.randint(0, 4)))
            elif q == "fit":
                R.tell(R.call(q, m, P_(0)))
            elif q == "rule":
                if r.random() < 0.4:
                    R.ser_()
                R.tell(
                    R.call(
                        q,
                        P_(1),
                        r.randint(-1, 4) if r.random() < 0.2 else r.randint(0, 3),
                        r.randint(-1, 5) if r.random() < 0.2 else r.randint(0, 4),
                    )
                )
            elif q == "recur":
                R.tell(R.call(q, m))
        elif g == "formula":
            q = r.random()
            if q < 0.3:
                t = R.expr(3, {})
                t = t if r.random() < 0.85 else R.mutate(t)
                R.typ(t[:200])
                R.tell(R.call("formula"))
                if r.random() < 0.2:
                    R.call("fault", 0)
                    R.call("fault", 1)
            elif q < 0.4:
                R.tell(R.call("written", P_(0)))
            elif q < 0.5:
                R.tell(R.call("worth", P_(3)))
            elif q < 0.65:
                h = R.call("simple", P_(3))
                R.tell(h)
                n = R.call("rows")
                for k in range(-1, n + 1):
                    if r.random() < 0.4:
                        R.call("row", k, r.randint(-1, 2))
                if isinstance(h, int) and r.random() < 0.3:
                    R.call("worth", h)
            else:
                f = P_(3)
                if 0 <= f < len(R.x.th) and R.x.th[f][0] == 3 and r.random() < 0.9:
                    ns = list(pre(R.x.th[f][1]))
                    c = [(i, l) for i, u in enumerate(ns) for l in range(12) if law(u, l) is not None]
                    if c and r.random() < 0.85:
                        i, l = r.choice(c)
                        if r.random() < 0.3:
                            c2 = [y for y in c if y[1] in (3, 9, 4, 11, 8, 7, 6)]
                            if c2:
                                i, l = r.choice(c2)
                    else:
                        i, l = r.randint(-1, len(ns)), r.randint(-1, 12)
                else:
                    i, l = r.randint(0, 5), r.randint(0, 11)
                h = R.call("change", f, i, l)
                R.tell(h)
        elif g == "sheet":
            q = r.random()
            cells = list(range(r.choice([3, 5, 16])))
            if q < 0.4:
                t = R.expr(1, {"cell": cells})
                t = t if r.random() < 0.85 else R.mutate(t)
                if r.random() < 0.1:
                    t = ""
                R.typ(t[:64])
                R.call("enter", r.choice(cells + [0, 1, 2]) if r.random() < 0.97 else r.choice([-1, 16]))
                if R.x.text:
                    R.call("read")
            elif q < 0.7:
                R.call(
                    "cell",
                    r.choice(cells) if r.random() < 0.97 else r.choice([-1, 16]),
                    r.randint(0, 3) if r.random() < 0.95 else r.choice([-1, 4]),
                )
            elif q < 0.8:
                R.tell(R.call("get", r.choice(cells)))
            elif q < 0.93:
                t = R.expr(1, {"cell": cells, "hand": 1})
                t = t + "=" + (t if r.random() < 0.4 else R.expr(1, {"cell": cells, "hand": 1}))
                t = t if r.random() < 0.75 else R.mutate(t)
                R.typ(t[:200])
                R.call("claim")
                R.call("fault", 0)
                R.call("fault", 1)
            else:
                R.call("worked")
        elif g == "text":
            t = R.expr(r.choice([1, 2, 3]), {"hand": 1})
            if r.random() < 0.6:
                t = R.mutate(t)
            if r.random() < 0.05:
                t = "(" * r.randint(18, 22) + t + ")" * r.randint(18, 22)
            R.typ(t[: r.choice([200, 220])])
            R.tell(R.call(r.choice(["read", "read", "formula"])))
            R.call("fault", 0)
            R.call("fault", 1)
            if r.random() < 0.05:
                R.call("type", r.randint(-(2**63), 2**63 - 1))
            if r.random() < 0.05:
                R.call("type", 0)
    return R


def deeper(seed, calls=400, only=None):
    R = Run(seed)
    r = R.r
    kinds = ["lin", "bigfac", "open", "grow", "sheet", "closed", "rational", "full"]
    while R.n < calls:
        g = r.choice(only or kinds)
        if len(R.x.th) > 140 and r.random() < 0.3:
            R.call("clear")
        if g == "lin":
            t = "*".join(
                "(x%+d)" % r.randint(-99, 99) + ("^%d" % r.choice([2, 3]) if r.random() < 0.2 else "")
                for _ in range(r.randint(3, 25))
            )
            h = R.mkfrac(t[:200] if t[:200].count("(") == t[:200].count(")") else t[: t[:200].rindex("*")])
            if r.random() < 0.3:
                h = R.mkfrac("x^%d%+d" % (r.randint(2, 40), r.randint(-3, 3)))
            if isinstance(h, int):
                n = R.call("factors", h)
                for k in range(n):
                    R.call("often", h, k)
                    R.tell(R.call("factor", h, k))
        elif g == "bigfac":
            hs = []
            for _ in range(r.randint(1, 6)):
                h = R.mkfrac(
                    r.choice(
                        [
                            "x^%d+%d*x+%d" % (r.randint(2, 12), r.randint(0, 32002), r.randint(0, 32002)),
                            R.poly(r.randint(2, 9)),
                            "x^2+%d" % r.randint(1, 999),
                            "x^3+x+%d" % r.randint(1, 999),
                        ]
                    )
                )
                if isinstance(h, int):
                    hs.append(h)
            if hs:
                acc = hs[0]
                for h in hs[1:]:
                    t = R.call("times", acc, h)
                    if isinstance(t, int):
                        acc = t
                n = R.call("factors", acc)
                for k in range(n):
                    R.call("often", acc, k)
                    R.tell(R.call("factor", acc, k))
                nn = R.mkfrac(R.poly(r.choice([0, 3, 10])))
                if isinstance(nn, int):
                    q = R.call("over", nn, acc)
                    if isinstance(q, int):
                        n = R.call("factors", q)
                        for k in range(n):
                            R.tell(R.call("part", q, k, 1))
                            R.call("log", q, k)
                        R.tell(R.call("core", q))
                        R.tell(R.call("rest", q))
        elif g == "open":
            q = r.random()
            how = r.choice([0, 1])
            if q < 0.3:
                ps = r.choice(
                    [
                        ["0", "0", "0", "1"],
                        ["0", "0", "1"],
                        ["0", "0", "x"],
                        ["-1", "1"],
                        ["1", "-2", "1"],
                        ["-1", "3", "-3", "1"],
                        ["0", "1", "x"],
                        ["0", "0", "0", "x^2"],
                        ["1", "0", "-1"],
                        ["2", "-1", "-2", "1"],
                    ]
                )
            elif q < 0.7:
                a, b, c = [r.randint(0, 20) for _ in range(3)]
                # Euler operators x^2 f'' + (1-a-b) x f' + ab f
                ps = r.choice(
                    [
                        ["-%d" % a, "x"],
                        ["%d" % (a * b), "%d*x" % ((1 - a - b) % P), "x^2"],
                        [
                            "-%d" % (a * b * c),
                            "(%d)*x" % ((1 - a - b - c + a * b + b * c + c * a) % P),
                            "%d*x^2" % ((3 - a - b - c) % P),
                            "x^3",
                        ],
                    ]
                )
                how = 1
            elif q < 0.85:
                a = r.randint(0, 6)
                ps = ["-x-%d" % a, "x"] if r.random() < 0.5 else ["-(x+%d)" % a, "x+%d" % (a - 1)]
                how = 0
            else:
                ps = [R.poly(r.choice([0, 1, 2])) for _ in range(r.randint(1, 4))]
            hs = [R.mkfrac(p) for p in ps]
            for h in hs:
                R.call("take", h if isinstance(h, int) else 0)
            m = R.call("matrix", 1, len(ps))
            if isinstance(m, int):
                n = R.call("answers", m, how)
                R.call("answers", m, 1 - how)
                if isinstance(n, int):
                    for k in range(-1, n + 1):
                        h = R.call("answer", m, how, k)
                        R.tell(h)
                        if isinstance(h, int):
                            R.tell(R.call("made", m, how, h))
                f = R.mkfrac(R.poly(r.choice([0, 2, 5])))
                if isinstance(f, int):
                    t = R.call("made", m, how, f)
                    if isinstance(t, int):
                        R.tell(R.call("meet", m, how, t))
                    R.tell(R.call("meet", m, how, f))
                    f2 = R.mkfrac("(%s)/(%s)" % (R.poly(2), R.prodpoly(r.choice([2, 6, 14]))))
                    if isinstance(f2, int):
                        R.tell(R.call("made", m, how, f2))
                        R.tell(R.call("fit", m, f2))
                R.tell(R.call("recur", m))
        elif g == "grow":
            hs = [h for h in R.handles(3)]
            if not hs or r.random() < 0.2:
                R.typ(
                    r.choice(
                        [
                            "(x+1)^9",
                            "x*(x+2)^5",
                            "(x+1)*(x-(x+2)^3)",
                            "(x/(x+1))*(x+2)",
                            "-(x-(-x))",
                            "(2+3)*(4-1)/(0-x)+0*1",
                            "x^99",
                            "(x*x+x*3)-x*(x+1)^2",
                            "0-0",
                            "((x^2)^3)^4",
                            "-x-(-(-x))",
                            "1*(0-(x-0)/1)^1",
                        ]
                    )
                )
                R.call("formula")
                continue
            f = max(hs) if r.random() < 0.8 else r.choice(hs)
            ns = list(pre(R.x.th[f][1]))
            c = [(i, l) for i, u in enumerate(ns) for l in range(12) if law(u, l) is not None]
            if c:
                w = [6 if l in (3, 9) else 4 if l in (4, 11, 6, 7, 8) else 1 for i, l in c]
                i, l = r.choices(c, w)[0]
                h = R.call("change", f, i, l)
                if r.random() < 0.4:
                    R.tell(h)
                if r.random() < 0.05:
                    R.tell(R.call("worth", f))
                if r.random() < 0.15:
                    R.tell(R.call("simple", f))
                    n = R.call("rows")
                    for k in range(n):
                        R.call("row", k, 0)
                        R.call("row", k, 1)
            if r.random() < 0.1:
                f = R.mkfrac("(%s)/(%s)" % (R.poly(r.choice([3, 15])), R.poly(r.choice([3, 8]))))
                if isinstance(f, int):
                    t = R.call("power", f, r.choice([1, 2, 3, 4]))
                    if isinstance(t, int):
                        R.tell(R.call("written", t))
        elif g == "sheet":
            for c in range(r.choice([3, 6, 16])):
                lo = [d for d in range(16) if d < c] or [0]
                t = (
                    "+".join(
                        r.choice(["x", "2", "x^2", "1/x"] + [chr(65 + r.choice(lo))] * 4)
                        for _ in range(r.randint(1, 4))
                    )
                    if c
                    else r.choice(["x", "3", "1/(x+1)", "x^40"])
                )
                if r.random() < 0.05:
                    t += "/0"
                if r.random() < 0.05:
                    t = "P" + t
                if r.random() < 0.05:
                    t += "*B"
                R.typ(t[:62])
                R.call("enter", c)
                if R.x.text:
                    R.call("clear")
            for _ in range(r.randint(3, 12)):
                q = r.random()
                c = r.randint(0, 15)
                if q < 0.3:
                    for w in range(4):
                        R.call("cell", c, w)
                elif q < 0.5:
                    R.tell(R.call("get", c))
                elif q < 0.8:
                    a, b = r.randint(0, 15), r.randint(0, 15)
                    R.typ(
                        r.choice(
                            [
                                "%s+x=%s",
                                "%s=%s",
                                "%s*2=%s",
                                "-%s=%s-1",
                                "(%s)=(%s)",
                                "1/%s=x^%s",
                                "x^40*x+%s=%s",
                            ]
                        )
                        % (chr(65 + a), chr(65 + b))
                    )
                    R.call("claim")
                    R.call("fault", 0)
                    R.call("fault", 1)
                elif q < 0.95:
                    R.typ(R.expr(1, {"cell": range(16)})[:60])
                    R.call("enter", c)
                R.call("worked")
        elif g == "closed":
            a = R.mkfrac(
                r.choice(
                    [
                        "(x+%d)/(x+%d)" % (r.randint(1, 25), r.randint(1, 25)),
                        "(x+%d)^2/(x+%d)^2" % (r.randint(1, 9), r.randint(1, 9)),
                        "(x+%d)*(x+%d)/((x+%d)*(x+%d))" % tuple(r.randint(-3, 12) for _ in range(4)),
                        "%d*(x+%d)*(x+%d)/((x+%d)*(x+%d))" % tuple(r.randint(1, 12) for _ in range(5)),
                        "(x+%d)^%d/x^%d" % (r.randint(10, 20), *(2 * [r.randint(1, 4)])),
                        "1/(x+%d)" % r.randint(1, 4),
                        "(x+1)^%d/x^%d" % (2 * (r.randint(1, 14),)),
                        "(2*x+%d)/(2*x+%d)" % (r.randint(1, 9), r.randint(1, 9)),
                    ]
                )
            )
            if isinstance(a, int):
                R.tell(R.call("closed", a))
                R.call("term", a, r.randint(0, 20))
                R.call("sum", a, r.randint(0, 20))
        elif g == "rational":
            n = r.randint(1, 6)
            for _ in range(n):
                h = R.mkfrac("(%s)/(%s)" % (R.poly(r.randint(0, 5)), R.poly(r.randint(0, 5))))
            a = R.pick(0)
            b = R.pick(0)
            for q in r.sample(["add", "less", "times", "over", "put"], 3):
                R.tell(R.call(q, a, b))
            R.tell(R.call("derive", a))
            R.tell(R.call("power", a, r.randint(0, 12)))
            a = R.pick(0, True)
            b = R.pick(0, True)
            R.call("resultant", a, b)
            R.tell(R.call("combined", a, b, 0))
            R.tell(R.call("combined", a, b, 1))
            R.tell(R.call("least", a, b))
            R.tell(R.call("common", a, b))
            R.tell(R.call("divided", a, b, 0))
            R.tell(R.call("divided", a, b, 1))
        elif g == "full":
            if only is None and r.random() > 0.04:
                continue
            while len(R.x.th) < 150:
                R.call("number", len(R.x.th))
            for _ in range(40):
                q = r.choice(
                    [
                        "add",
                        "over",
                        "power",
                        "derive",
                        "put",
                        "common",
                        "divided",
                        "combined",
                        "least",
                        "factor",
                        "remainder",
                        "part",
                        "core",
                        "rest",
                        "integral",
                        "closed",
                        "series",
                        "guess",
                        "entry",
                        "turned",
                        "determinant",
                        "invariant",
                        "own",
                        "adjoint",
                        "companion",
                        "within",
                        "solved",
                        "made",
                        "answer",
                        "meet",
                        "unroll",
                        "fit",
                        "rule",
                        "recur",
                        "written",
                        "worth",
                        "change",
                        "simple",
                        "get",
                        "read",
                        "formula",
                        "matrix",
                        "exponential",
                        "logarithm",
                        "reverse",
                        "root",
                        "claim",
                    ]
                )
                n = len(inspect.signature(getattr(R.x, q)).parameters)
                if q in ("read", "formula", "claim"):
                    R.typ(r.choice(["x", "x+", "1/0", "x=x"]))
                hs = [
                    R.pick(r.choice([0, 1, 2, 3])) if i == 0 else r.choice([R.pick(0), R.pick(2), 0, 1])
                    for i in range(n)
                ]
                R.call(q, *hs)
                if q in ("read", "formula", "claim"):
                    R.call("fault", 0)
            R.call("count")
            R.call("clear")
    return R


def crowded(seed, calls=450, only=None):
    R = Run(seed)
    r = R.r
    for t in ["x", "x^2-1", "(x+1)/(x^2+2)", "1/x", "0", "3", "x^40", "1/(x-1)^3", "x^3+x+1", "1/(x^40-1)"]:
        R.mkfrac(t)
    for _ in range(6):
        R.fracs()
    for t in ["x/(1-x)", "1+x", "1/(1-x-x^2)", "x+x^3", "0"]:
        R.mkfrac(t)
        R.call("series", len(R.x.th) - 1)
    for rows, cols, es in [
        (2, 2, ["x", "1", "2", "x^2"]),
        (1, 3, ["1", "x", "1"]),
        (1, 2, ["-1", "1"]),
        (2, 3, ["1", "x", "1", "x", "1", "0"]),
        (2, 2, ["1", "2", "3", "4"]),
        (1, 1, ["x^10"]),
        (3, 3, ["x", "1", "0", "0", "x", "1", "1", "0", "x"]),
    ]:
        if len(R.x.th) > 135:
            break
        hs = [R.call("number", int(e)) if e.lstrip("-").isdigit() else R.mkfrac(e) for e in es]
        for h in hs:
            R.call("take", h if isinstance(h, int) else 0)
        R.call("matrix", rows, cols)
    for t in ["x+0", "(x+1)*(x-1)", "1/0", "x^41", "-(-x)-(2*3)", "x/x/x", "(x+1)^3"]:
        if len(R.x.th) < 149:
            R.typ(t)
            R.call("formula")
    n = len(R.x.th)
    for t, c in [("x", 0), ("A+1", 1), ("1/0", 2), ("E", 3), ("D", 4), ("x^40*x", 5)]:
        R.typ(t)
        R.call("enter", c)
    full = r.random() < 0.6
    if full:
        while len(R.x.th) < 150:
            R.call("number", 7)
    names = [
        "add",
        "less",
        "times",
        "over",
        "power",
        "derive",
        "put",
        "value",
        "common",
        "resultant",
        "divided",
        "combined",
        "least",
        "factors",
        "factor",
        "often",
        "remainder",
        "part",
        "core",
        "rest",
        "log",
        "integral",
        "closed",
        "term",
        "sum",
        "series",
        "exponential",
        "logarithm",
        "reverse",
        "root",
        "guess",
        "take",
        "entry",
        "turned",
        "determinant",
        "rank",
        "invariant",
        "own",
        "adjoint",
        "companion",
        "within",
        "solved",
        "made",
        "answers",
        "answer",
        "meet",
        "unroll",
        "obeys",
        "fit",
        "rule",
        "recur",
        "written",
        "worth",
        "nodes",
        "node",
        "change",
        "simple",
        "get",
        "cell",
        "read",
        "formula",
        "matrix",
        "claim",
        "kind",
        "degree",
        "at",
        "same",
        "printed",
        "letter",
    ]
    kinds = {"f": 0, "s": 1, "m": 2}
    while R.n < calls:
        if not full and len(R.x.th) >= 150:
            break
        q = r.choice(names)
        if q in ("read", "formula", "claim"):
            R.typ(r.choice(["x", "x+", "1/0", "x=x", "A=B", "x^41", "C=x"]))
        ps = list(inspect.signature(getattr(R.x, q)).parameters)
        args = []
        for i, pn in enumerate(ps):
            hk = pn in ("f", "g", "m", "s")
            if q in ("get", "cell") and i == 0:
                args.append(r.randint(-1, 16))
                continue
            if hk and r.random() < 0.93:
                want = {
                    "nodes": 3,
                    "node": 3,
                    "change": 3,
                    "simple": 3,
                    "worth": 3,
                    "printed": r.choice([0, 3]),
                    "letter": r.choice([0, 3]),
                }.get(q, kinds.get(pn, 0) if pn != "g" else None)
                if q in ("exponential", "logarithm", "reverse", "root", "guess", "rule"):
                    want = 1 if i == 0 else want
                if q in ("add", "less", "times", "over", "put", "same") and i == 0:
                    want = r.choice([0, 0, 1, 2])
                if pn == "g" and args and 0 <= args[0] < len(R.x.th):
                    want = R.x.th[args[0]][0]
                if q in ("unroll", "obeys") and i == 1:
                    want = 1
                if q == "made" and i == 2:
                    want = r.choice([0, 0, 1])
                if q in ("derive", "integral"):
                    want = r.choice([0, 0, 1])
                hs = [h for h in R.handles(want or 0) if h < n]
                if q in ("made", "answers", "answer", "meet", "unroll", "obeys", "fit", "recur") and i == 0:
                    hs = (
                        [h for h in hs if len(R.x.th[h][1]) == 1 and R.x.th[h][1][0][-1]]
                        if r.random() < 0.9
                        else hs
                    )
                args.append(r.choice(hs) if hs else 0)
            elif hk:
                args.append(r.choice([-1, 150, 2**31 - 1, -(2**31), r.randint(0, n)]))
            else:
                args.append(
                    r.choice([0, 0, 1, 1, 2, 3, -1, 4])
                    if r.random() < 0.95
                    else r.choice([2**31 - 1, -(2**31), 100, 61])
                )
        h = R.call(q, *args)
        if q in ("read", "formula", "claim"):
            R.call("fault", 0)
        if (
            not full
            and r.random() < 0.3
            and isinstance(h, int)
            and q
            not in (
                "value",
                "resultant",
                "factors",
                "often",
                "log",
                "term",
                "sum",
                "take",
                "rank",
                "answers",
                "obeys",
                "nodes",
                "node",
                "cell",
                "claim",
                "kind",
                "degree",
                "at",
                "same",
                "printed",
                "letter",
            )
        ):
            R.tell(h)
    return R


SORTS = [
    (mixed, g)
    for g in ["arith", "factor", "calc", "terms", "series", "matrix", "rules", "formula", "sheet", "text"]
]
SORTS += [(deeper, g) for g in ["lin", "bigfac", "open", "grow", "sheet", "closed", "rational"]]
SORTS += [(crowded, None)]


def lines(R):
    return [l if l == "new" else l + " = " + o for l, o in zip(R.log, R.out)]


def make(sort, seed, calls):
    how, only = sort
    return how(seed, calls, [only] if only else None)


def write(path, seeds, calls):
    with open(path, "w") as f:
        for sort in SORTS:
            for seed in seeds:
                f.write("\n".join(lines(make(sort, seed, calls if sort[1] else 2 * calls + 100))) + "\n")


def compare(seeds):
    with tempfile.TemporaryDirectory() as d:
        sources = ["src/main/java/FormulaWorks.java", "src/test/java/RunsTest.java"]
        subprocess.run(["javac", "-d", d] + sources, cwd=ROOT, check=True)
        path = os.path.join(d, "runs.txt")
        write(path, seeds, 450)
        subprocess.run(["java", "-cp", d, "RunsTest", path], cwd=ROOT)


def main():
    if sys.argv[1:] == ["write"]:
        write(os.path.join(ROOT, "src/test/data/runs.txt"), [90001, 90002, 90003], 190)
    elif len(sys.argv) == 3 and sys.argv[1] == "compare":
        compare(range(int(sys.argv[2])))
    else:
        print(__doc__)


if __name__ == "__main__":
    main()
