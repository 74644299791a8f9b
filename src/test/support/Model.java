import java.math.BigInteger;
import java.util.ArrayList;
import java.util.Arrays;
import java.util.HashMap;
import java.util.List;
import java.util.Map;

/**
 * The document again, by other ways than the class: rows are listed in boxes that the form's own
 * numbers bound, the least form is taken stage by stage from all of them, a neighbour's rows come
 * from all that lie in it, brought to steps. Slow, and meant to be.
 */
public final class Model {
    static final int NONE = -1, UNKNOWN = -100001, OUTSIDE = -100002, NOT = -100003, FULL = -100004, MANY = -100005;

    /** A least form, how many tables lead to it and the first of them. */
    static final class Least {
        long[] form;
        int turns;
        long[] table;
    }

    /** Kin by a prime, or none told as they are too many. */
    static final class Kin {
        boolean many;
        final List<Least> list = new ArrayList<>();
        final List<int[]> ways = new ArrayList<>();
    }

    private static final Map<String, Least> LEASTS = new HashMap<>();
    private static final Map<String, Kin> KINS = new HashMap<>();
    private static final Map<String, int[]> TAKENS = new HashMap<>();

    private final List<long[]> forms = new ArrayList<>();
    private int p = 3;

    // ---- arithmetic from the words of the document

    static long at(long[] q, long x, long y, long z) {
        return q[0] * x * x + q[1] * y * y + q[2] * z * z + q[3] * y * z + q[4] * x * z + q[5] * x * y;
    }

    static long at(long[] q, long[] r) {
        return at(q, r[0], r[1], r[2]);
    }

    static long touch(long[] q, long[] r, long[] s) {
        return at(q, r[0] + s[0], r[1] + s[1], r[2] + s[2]) - at(q, r) - at(q, s);
    }

    static long disc(long[] q) {
        return 4 * q[0] * q[1] * q[2] + q[3] * q[4] * q[5] - q[0] * q[3] * q[3] - q[1] * q[4] * q[4] - q[2] * q[5] * q[5];
    }

    static long det(long[] r, long[] s, long[] t) {
        return r[0] * (s[1] * t[2] - s[2] * t[1]) - r[1] * (s[0] * t[2] - s[2] * t[0]) + r[2] * (s[0] * t[1] - s[1] * t[0]);
    }

    static long[] turned(long[] q, long[] r, long[] s, long[] t) {
        return new long[] {at(q, r), at(q, s), at(q, t), touch(q, s, t), touch(q, r, t), touch(q, r, s)};
    }

    private static long bound(long n, long minor, long disc) {
        long b = 0;
        while ((b + 1) * (b + 1) * disc <= n * minor) {
            b++;
        }
        return b;
    }

    /** All rows but (0, 0, 0) with a value of n at most. */
    static List<long[]> rowsUpTo(long[] q, long n) {
        long disc = disc(q);
        long bx = bound(n, 4 * q[1] * q[2] - q[3] * q[3], disc);
        long by = bound(n, 4 * q[0] * q[2] - q[4] * q[4], disc);
        long bz = bound(n, 4 * q[0] * q[1] - q[5] * q[5], disc);
        List<long[]> rows = new ArrayList<>();
        for (long x = -bx; x <= bx; x++) {
            for (long y = -by; y <= by; y++) {
                for (long z = -bz; z <= bz; z++) {
                    long v = at(q, x, y, z);
                    if (v > 0 && v <= n) {
                        rows.add(new long[] {x, y, z});
                    }
                }
            }
        }
        return rows;
    }

    private static long gcd(long a, long b) {
        return BigInteger.valueOf(a).gcd(BigInteger.valueOf(b)).longValue();
    }

    private static boolean canBeginTable(long[] r, long[] s) {
        long g = gcd(gcd(r[0] * s[1] - r[1] * s[0], r[0] * s[2] - r[2] * s[0]), r[1] * s[2] - r[2] * s[1]);
        return g == 1;
    }

    static Least least(long[] q) {
        return LEASTS.computeIfAbsent(Arrays.toString(q), key -> findLeast(q));
    }

    private static Least findLeast(long[] q) {
        List<long[]> rows = rowsUpTo(q, Math.max(q[0], Math.max(q[1], q[2])));
        long a = rows.stream().mapToLong(r -> at(q, r)).min().getAsLong();
        List<long[][]> pairs = new ArrayList<>();
        long b = Long.MAX_VALUE;
        for (long[] r : rows) {
            if (at(q, r) != a) {
                continue;
            }
            for (long[] s : rows) {
                long v = at(q, s);
                if (v <= b && canBeginTable(r, s)) {
                    if (v < b) {
                        pairs.clear();
                        b = v;
                    }
                    pairs.add(new long[][] {r, s});
                }
            }
        }
        long c = Long.MAX_VALUE;
        List<long[]> tables = new ArrayList<>();
        for (long[][] pair : pairs) {
            for (long[] t : rows) {
                long v = at(q, t);
                if (v <= c && Math.abs(det(pair[0], pair[1], t)) == 1) {
                    if (v < c) {
                        tables.clear();
                        c = v;
                    }
                    tables.add(join(pair[0], pair[1], t));
                }
            }
        }
        Least best = new Least();
        for (long[] table : tables) {
            long[] form = turned(q, row(table, 0), row(table, 1), row(table, 2));
            int order = best.form == null ? -1 : Arrays.compare(form, best.form);
            if (order < 0) {
                best.form = form;
                best.turns = 0;
                best.table = table;
            }
            if (order <= 0) {
                best.turns++;
                if (Arrays.compare(table, best.table) < 0) {
                    best.table = table;
                }
            }
        }
        return best;
    }

    private static long[] join(long[] r, long[] s, long[] t) {
        return new long[] {r[0], r[1], r[2], s[0], s[1], s[2], t[0], t[1], t[2]};
    }

    private static long[] row(long[] table, int i) {
        return Arrays.copyOfRange(table, 3 * i, 3 * i + 3);
    }

    static int[] takens(long[] q) {
        return TAKENS.computeIfAbsent(Arrays.toString(q), key -> {
            int[] times = new int[101];
            times[0] = 1;
            for (long[] r : rowsUpTo(q, 100)) {
                times[(int) at(q, r)]++;
            }
            return times;
        });
    }

    // ---- lines and neighbours

    static List<long[]> lines(long[] q, int p) {
        List<long[]> lines = new ArrayList<>();
        for (long x = 0; x < p; x++) {
            for (long y = 0; y < p; y++) {
                for (long z = 0; z < p; z++) {
                    long first = x != 0 ? x : y != 0 ? y : z;
                    if (first == 1 && at(q, x, y, z) % p == 0) {
                        lines.add(new long[] {x, y, z});
                    }
                }
            }
        }
        return lines;
    }

    private static long[] unit(int u) {
        long[] e = new long[3];
        e[u] = 1;
        return e;
    }

    static int unitOf(long[] q, int p, long[] l) {
        int u = 0;
        while (touch(q, l, unit(u)) % p == 0) {
            u++;
        }
        return u;
    }

    static long[] beside(long[] l, int p, int t, int u) {
        long[] w = l.clone();
        w[u] += (long) p * t;
        return w;
    }

    static int timesOf(long[] q, int p, long[] l) {
        int u = unitOf(q, p, l);
        int t = 0;
        while (at(q, beside(l, p, t, u)) % (p * p) != 0) {
            t++;
        }
        return t;
    }

    /** All rows here are P times those of the neighbour. */
    static Least neighbour(long[] q, int p, long[] l) {
        long[] w = beside(l, p, timesOf(q, p, l), unitOf(q, p, l));
        List<long[]> spanning = new ArrayList<>();
        spanning.add(w);
        for (long x = 0; x <= p; x++) {
            for (long y = 0; y <= p; y++) {
                for (long z = 0; z <= p; z++) {
                    if (touch(q, new long[] {x, y, z}, w) % p == 0) {
                        spanning.add(new long[] {p * x, p * y, p * z});
                    }
                }
            }
        }
        long[][] basis = inSteps(spanning);
        shorten(q, basis);
        long[] form = turned(q, basis[0], basis[1], basis[2]);
        for (int i = 0; i < 6; i++) {
            if (form[i] % (p * p) != 0) {
                throw new IllegalStateException("a neighbour that is not whole");
            }
            form[i] /= p * p;
        }
        return least(form);
    }

    /** A basis of all whole sums of rows, in steps. */
    private static long[][] inSteps(List<long[]> spanning) {
        List<long[]> rows = new ArrayList<>();
        for (long[] r : spanning) {
            rows.add(r.clone());
        }
        long[][] basis = new long[3][];
        for (int column = 0; column < 3; column++) {
            long[] head = null;
            for (long[] r : rows) {
                if (r[column] == 0) {
                    continue;
                }
                if (head == null) {
                    head = r;
                    continue;
                }
                while (r[column] != 0) {
                    long s = head[column] / r[column];
                    for (int i = 0; i < 3; i++) {
                        long kept = r[i];
                        r[i] = head[i] - s * r[i];
                        head[i] = kept;
                    }
                }
            }
            basis[column] = head;
            final long[] used = head;
            rows.removeIf(r -> r == used);
        }
        return basis;
    }

    /** Makes boxes small; what is least is not taken from here. */
    private static void shorten(long[] q, long[][] basis) {
        boolean moved = true;
        while (moved) {
            moved = false;
            for (int i = 0; i < 3; i++) {
                for (int s = -1; s <= 1; s++) {
                    for (int t = -1; t <= 1; t++) {
                        long[] tried = new long[3];
                        for (int c = 0; c < 3; c++) {
                            tried[c] = basis[i][c] + s * basis[(i + 1) % 3][c] + t * basis[(i + 2) % 3][c];
                        }
                        if (at(q, tried) < at(q, basis[i])) {
                            basis[i] = tried;
                            moved = true;
                        }
                    }
                }
            }
        }
    }

    static Kin kin(long[] q, int p) {
        Least first = least(q);
        return KINS.computeIfAbsent(p + Arrays.toString(first.form), key -> findKin(first, p));
    }

    private static int placeOf(Kin kin, long[] form) {
        for (int i = 0; i < kin.list.size(); i++) {
            if (Arrays.equals(kin.list.get(i).form, form)) {
                return i;
            }
        }
        return NONE;
    }

    private static Kin findKin(Least first, int p) {
        Kin kin = new Kin();
        kin.list.add(first);
        for (int i = 0; i < kin.list.size(); i++) {
            long[] q = kin.list.get(i).form;
            int[] ways = new int[64];
            kin.ways.add(ways);
            for (long[] l : lines(q, p)) {
                Least next = neighbour(q, p, l);
                if (placeOf(kin, next.form) == NONE) {
                    kin.list.add(next);
                }
                ways[placeOf(kin, next.form)]++;
            }
            if (kin.list.size() > 16) {
                kin.many = true;
                return kin;
            }
        }
        return kin;
    }

    // ---- the calls

    private boolean unknown(int k) {
        return k < 0 || k >= forms.size();
    }

    private static boolean out(int n, int from, int to) {
        return n < from || n > to;
    }

    private static boolean isForm(int... q) {
        for (int i = 0; i < 6; i++) {
            if (out(q[i], i < 3 ? 1 : -12, 12)) {
                return false;
            }
        }
        return 4 * q[0] * q[1] > q[5] * q[5] && disc(longs(q)) > 0;
    }

    static long[] longs(int... q) {
        return Arrays.stream(q).asLongStream().toArray();
    }

    public int form(int a, int b, int c, int d, int e, int f) {
        if (!isForm(a, b, c, d, e, f)) {
            return OUTSIDE;
        }
        if (forms.size() == 12) {
            return FULL;
        }
        forms.add(longs(a, b, c, d, e, f));
        return forms.size() - 1;
    }

    public int set(int k, int a, int b, int c, int d, int e, int f) {
        if (unknown(k)) {
            return UNKNOWN;
        }
        if (!isForm(a, b, c, d, e, f)) {
            return OUTSIDE;
        }
        forms.set(k, longs(a, b, c, d, e, f));
        return 1;
    }

    public int drop() {
        if (forms.isEmpty()) {
            return NOT;
        }
        forms.remove(forms.size() - 1);
        return forms.size();
    }

    public int told(int k, int what) {
        if (unknown(k)) {
            return UNKNOWN;
        }
        if (out(what, 0, 13)) {
            return OUTSIDE;
        }
        long[] q = forms.get(k);
        if (what < 6) {
            return (int) q[what];
        }
        if (what == 6) {
            return (int) disc(q);
        }
        return what == 13 ? least(q).turns : (int) least(q).form[what - 7];
    }

    public int value(int k, int x, int y, int z) {
        if (unknown(k)) {
            return UNKNOWN;
        }
        if (out(x, -1000, 1000) || out(y, -1000, 1000) || out(z, -1000, 1000)) {
            return OUTSIDE;
        }
        return (int) at(forms.get(k), x, y, z);
    }

    public int taken(int k, int n) {
        if (unknown(k)) {
            return UNKNOWN;
        }
        return out(n, 0, 100) ? OUTSIDE : takens(forms.get(k))[n];
    }

    public int least(int k) {
        if (unknown(k)) {
            return UNKNOWN;
        }
        int[] times = takens(forms.get(k));
        int n = 1;
        while (times[n] == 0) {
            n++;
        }
        return n;
    }

    public int same(int k, int j) {
        if (unknown(k) || unknown(j)) {
            return UNKNOWN;
        }
        return Arrays.equals(least(forms.get(k)).form, least(forms.get(j)).form) ? 1 : 0;
    }

    public int table(int k, int place) {
        if (unknown(k)) {
            return UNKNOWN;
        }
        return out(place, 0, 8) ? OUTSIDE : (int) least(forms.get(k)).table[place];
    }

    public int turns(int k, int j, int... r) {
        if (unknown(k) || unknown(j)) {
            return UNKNOWN;
        }
        for (int n : r) {
            if (out(n, -20, 20)) {
                return OUTSIDE;
            }
        }
        long[] rows = longs(r);
        boolean table = Math.abs(det(row(rows, 0), row(rows, 1), row(rows, 2))) == 1;
        long[] q = turned(forms.get(k), row(rows, 0), row(rows, 1), row(rows, 2));
        return table && Arrays.equals(q, forms.get(j)) ? 1 : 0;
    }

    public int count() {
        return forms.size();
    }

    public int prime(int p) {
        if (p != 3 && p != 5 && p != 7) {
            return OUTSIDE;
        }
        int was = this.p;
        this.p = p;
        return was;
    }

    private boolean intoDisc(int k) {
        return disc(forms.get(k)) % p == 0;
    }

    public int line(int k, int i, int what) {
        if (unknown(k)) {
            return UNKNOWN;
        }
        if (out(i, 0, p) || out(what, 0, 4)) {
            return OUTSIDE;
        }
        if (intoDisc(k)) {
            return NOT;
        }
        long[] q = forms.get(k);
        long[] l = lines(q, p).get(i);
        return what < 3 ? (int) l[what] : what == 3 ? timesOf(q, p, l) : unitOf(q, p, l);
    }

    public int neighbour(int k, int i, int what) {
        if (unknown(k)) {
            return UNKNOWN;
        }
        if (out(i, 0, p) || out(what, 0, 5)) {
            return OUTSIDE;
        }
        if (intoDisc(k)) {
            return NOT;
        }
        long[] q = forms.get(k);
        return (int) neighbour(q, p, lines(q, p).get(i)).form[what];
    }

    public int kin(int k) {
        if (unknown(k)) {
            return UNKNOWN;
        }
        if (intoDisc(k)) {
            return NOT;
        }
        Kin kin = kin(forms.get(k), p);
        return kin.many ? MANY : kin.list.size();
    }

    public int kind(int k, int i, int what) {
        if (unknown(k)) {
            return UNKNOWN;
        }
        if (out(what, 0, 6)) {
            return OUTSIDE;
        }
        int size = kin(k);
        if (size < 0) {
            return size;
        }
        if (out(i, 0, size - 1)) {
            return UNKNOWN;
        }
        Least one = kin(forms.get(k), p).list.get(i);
        return what == 6 ? one.turns : (int) one.form[what];
    }

    public int among(int k, int j) {
        if (unknown(k) || unknown(j)) {
            return UNKNOWN;
        }
        int size = kin(k);
        return size < 0 ? size : placeOf(kin(forms.get(k), p), least(forms.get(j)).form);
    }

    public int ways(int k, int i, int j) {
        int size = kin(k);
        if (size < 0) {
            return size;
        }
        if (out(i, 0, size - 1) || out(j, 0, size - 1)) {
            return UNKNOWN;
        }
        return kin(forms.get(k), p).ways.get(i)[j];
    }

    /** The sum of times / turns, as upper and lower number in least terms. */
    private static BigInteger[] sum(Kin kin, int n) {
        BigInteger upper = BigInteger.ZERO;
        BigInteger lower = BigInteger.ONE;
        for (Least one : kin.list) {
            BigInteger turns = BigInteger.valueOf(one.turns);
            BigInteger times = BigInteger.valueOf(n < 0 ? 1 : takens(one.form)[n]);
            upper = upper.multiply(turns).add(times.multiply(lower));
            lower = lower.multiply(turns);
        }
        return leastTerms(upper, lower);
    }

    private static BigInteger[] leastTerms(BigInteger upper, BigInteger lower) {
        BigInteger g = upper.gcd(lower);
        return new BigInteger[] {upper.divide(g), lower.divide(g)};
    }

    public long weight(int k, int what) {
        if (unknown(k)) {
            return UNKNOWN;
        }
        if (out(what, 0, 1)) {
            return OUTSIDE;
        }
        int size = kin(k);
        return size < 0 ? size : sum(kin(forms.get(k), p), -1)[what].longValue();
    }

    public long mean(int k, int n, int what) {
        if (unknown(k)) {
            return UNKNOWN;
        }
        if (out(n, 0, 100) || out(what, 0, 1)) {
            return OUTSIDE;
        }
        int size = kin(k);
        if (size < 0) {
            return size;
        }
        BigInteger[] taken = sum(kin(forms.get(k), p), n);
        BigInteger[] weight = sum(kin(forms.get(k), p), -1);
        return leastTerms(taken[0].multiply(weight[1]), taken[1].multiply(weight[0]))[what].longValue();
    }
}
