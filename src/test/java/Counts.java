import java.math.BigInteger;
import java.util.ArrayList;
import java.util.Arrays;
import java.util.HashMap;
import java.util.List;
import java.util.Map;

/** HOW MANY and ROW for up to 18 THINGS, each by another way than the one that HundredBoxes takes. */
final class Counts {
    /** The most TURNS of 1, 2, .. 18 THINGS (Landau's numbers). */
    private static final int[] MOST_TURNS = {
        1, 2, 3, 4, 6, 6, 12, 15, 20, 30, 30, 60, 60, 84, 105, 140, 210, 210};
    private static final Map<List<Integer>, Long> KNOWN = new HashMap<>();

    private Counts() {
    }

    static long factorial(int n) {
        return n < 2 ? 1 : n * factorial(n - 1);
    }

    static long choose(int n, int v) {
        return v < 0 || v > n ? 0 : factorial(n) / factorial(v) / factorial(n - v);
    }

    static long divisor(long a, long b) {
        return b == 0 ? a : divisor(b, a % b);
    }

    /** The least NUMBER k that an ORDER of n THINGS has. */
    static int least(int n, int k) {
        if (k == 3) return n == 1 ? 1 : 0;
        return k == 2 || k == 5 ? 0 : 1;
    }

    /** The greatest NUMBER k that an ORDER of n THINGS has. */
    static int greatest(int n, int k) {
        switch (k) {
            case 2: return n - 1;
            case 5: return n * (n - 1) / 2;
            case 7: return MOST_TURNS[n - 1];
            default: return n;
        }
    }

    static long many(int n, int k, int v) {
        if (v < least(n, k) || v > greatest(n, k)) return 0;
        List<Integer> key = List.of(-1, n, k, v);
        Long known = KNOWN.get(key);
        if (known != null) return known;
        long found = count(n, k, v);
        KNOWN.put(key, found);
        return found;
    }

    private static long count(int n, int k, int v) {
        switch (k) {
            case 0: return withSoManyRounds(n, v);
            case 1: return recordsProduct(n)[v];
            case 2: return eulerian(n, v);
            case 3: return still(n, v);
            case 4: return withRoundsUpTo(n, v) - withRoundsUpTo(n, v - 1);
            case 5: return outProduct(n)[v];
            case 6: return withLongestRise(n, v);
            default: return withTurns(n, v);
        }
    }

    static long sum(int n, int k) {
        long sum = 0;
        for (int v = 0; v <= greatest(n, k); v++) sum += v * many(n, k, v);
        return sum;
    }

    /** x (x + 1) .. (x + n - 1): of the first i + 1 THINGS any may be the last, and one of them is a RECORD. */
    private static long[] recordsProduct(int n) {
        long[] product = {1};
        for (int i = 0; i < n; i++) product = times(product, new long[] {i, 1});
        return product;
    }

    /** (1) (1 + x) (1 + x + x x) ..: place i has 0 .. i greater THINGS ahead of it. */
    private static long[] outProduct(int n) {
        long[] product = {1};
        for (int i = 1; i <= n; i++) {
            long[] ones = new long[i];
            Arrays.fill(ones, 1);
            product = times(product, ones);
        }
        return product;
    }

    private static long[] times(long[] a, long[] b) {
        long[] product = new long[a.length + b.length - 1];
        for (int i = 0; i < a.length; i++) for (int j = 0; j < b.length; j++) product[i + j] += a[i] * b[j];
        return product;
    }

    /** Worpitzky's sum, with changing signs, over C(n + 1, j) (v + 1 - j)^n. */
    private static long eulerian(int n, int v) {
        BigInteger sum = BigInteger.ZERO;
        for (int j = 0; j <= v; j++) {
            BigInteger term = BigInteger.valueOf(v + 1 - j).pow(n).multiply(BigInteger.valueOf(choose(n + 1, j)));
            sum = j % 2 == 0 ? sum.add(term) : sum.subtract(term);
        }
        return sum.longValueExact();
    }

    /** The v at rest are picked; of the others none, by leaving out and putting back. */
    private static long still(int n, int v) {
        long others = 0;
        for (int j = 0; j <= n - v; j++) others += (j % 2 == 0 ? 1 : -1) * choose(n - v, j) * factorial(n - v - j);
        return choose(n, v) * others;
    }

    /** The ways to write n as a sum, the greatest first and none above most. */
    private static List<List<Integer>> partitions(int n, int most) {
        List<List<Integer>> found = new ArrayList<>();
        if (n == 0) found.add(new ArrayList<>());
        for (int part = 1; part <= Math.min(n, most); part++) {
            for (List<Integer> rest : partitions(n - part, part)) {
                List<Integer> whole = new ArrayList<>(rest);
                whole.add(0, part);
                found.add(whole);
            }
        }
        return found;
    }

    /** ORDERS whose ROUNDS have these lengths. */
    private static long withLengths(int n, List<Integer> lengths) {
        BigInteger alike = BigInteger.ONE;
        for (int length = 1; length <= n; length++) {
            int times = 0;
            for (int other : lengths) times += other == length ? 1 : 0;
            alike = alike.multiply(BigInteger.valueOf(length).pow(times)).multiply(BigInteger.valueOf(factorial(times)));
        }
        return BigInteger.valueOf(factorial(n)).divide(alike).longValueExact();
    }

    private static long withSoManyRounds(int n, int v) {
        long found = 0;
        for (List<Integer> lengths : partitions(n, n)) found += lengths.size() == v ? withLengths(n, lengths) : 0;
        return found;
    }

    /** ORDERS with no ROUND longer than m. */
    static long withRoundsUpTo(int n, int m) {
        long found = 0;
        for (List<Integer> lengths : partitions(n, m)) found += withLengths(n, lengths);
        return found;
    }

    /** Each ORDER has v TURNS, or a smaller number that v is a multiple of, if v turns bring all back. */
    private static long withTurns(int n, int v) {
        long found = backAfter(n, v);
        for (int less = 1; less < v; less++) {
            if (v % less == 0) found -= many(n, 7, less);
        }
        return found;
    }

    /** ORDERS with ROUNDS only of lengths that v is a multiple of, by the ROUND of the last THING. */
    private static long backAfter(int n, int v) {
        if (n == 0) return 1;
        long found = 0;
        for (int length = 1; length <= n; length++) {
            if (v % length == 0) found += factorial(n - 1) / factorial(n - length) * backAfter(n - length, v);
        }
        return found;
    }

    private static long withLongestRise(int n, int v) {
        long found = 0;
        for (List<Integer> shape : partitions(n, v)) {
            if (shape.get(0) == v) found += tableaux(shape) * tableaux(shape);
        }
        return found;
    }

    /** Standard tableaux of a shape: the greatest stands at a corner, which is taken off. */
    private static long tableaux(List<Integer> shape) {
        if (shape.isEmpty()) return 1;
        List<Integer> key = new ArrayList<>(shape);
        key.add(0, -2);
        Long known = KNOWN.get(key);
        if (known != null) return known;
        long found = 0;
        for (int line = 0; line < shape.size(); line++) {
            boolean isCorner = line + 1 == shape.size() || shape.get(line + 1) < shape.get(line);
            if (!isCorner) continue;
            List<Integer> less = new ArrayList<>(shape);
            less.set(line, less.get(line) - 1);
            if (less.get(line) == 0) less.remove(line);
            found += tableaux(less);
        }
        KNOWN.put(key, found);
        return found;
    }

    /** How many ORDERS of n THINGS are of a kind (-1, 1, 2) with v. */
    static long ofKind(int n, int kind, int v) {
        return kind == -1 ? factorial(n) : many(n, kind, v);
    }

    /** null: there are not so many. */
    static int[] row(int n, int kind, int v, long k) {
        if (k >= ofKind(n, kind, v)) return null;
        List<Integer> begun = new ArrayList<>();
        long ahead = k;
        while (begun.size() < n) {
            for (int thing = 0; thing < n; thing++) {
                if (begun.contains(thing)) continue;
                begun.add(thing);
                long ways = endings(n, kind, v, begun);
                if (ahead < ways) break;
                ahead -= ways;
                begun.remove(begun.size() - 1);
            }
        }
        return begun.stream().mapToInt(Integer::intValue).toArray();
    }

    static long place(int[] a, int kind) {
        int n = a.length;
        int v = kind == -1 ? 0 : Orders.number(a, kind);
        long ahead = 0;
        List<Integer> begun = new ArrayList<>();
        for (int i = 0; i < n; i++) {
            for (int thing = 0; thing < a[i]; thing++) {
                if (begun.contains(thing)) continue;
                begun.add(thing);
                ahead += endings(n, kind, v, begun);
                begun.remove(begun.size() - 1);
            }
            begun.add(a[i]);
        }
        return ahead;
    }

    /** How many ORDERS of a kind begin with these THINGS. */
    private static long endings(int n, int kind, int v, List<Integer> begun) {
        int left = n - begun.size();
        int[] head = begun.stream().mapToInt(Integer::intValue).toArray();
        if (kind == -1) return factorial(left);
        int more = v - Orders.number(head, kind);
        int mark = kind == 1 ? Arrays.stream(head).max().getAsInt() : head[head.length - 1];
        int below = 0;
        for (int thing = 0; thing < mark; thing++) below += begun.contains(thing) ? 0 : 1;
        return kind == 1 ? endRecords(below, left - below, more) : endRises(below, left - below, more);
    }

    /** below: THINGS left under the last RECORD; above: those over it. */
    private static long endRecords(int below, int above, int more) {
        if (more < 0 || more > above) return 0;
        if (above + below == 0) return 1;
        List<Integer> key = List.of(-3, below, above, more);
        Long known = KNOWN.get(key);
        if (known != null) return known;
        long found = below == 0 ? 0 : below * endRecords(below - 1, above, more);
        for (int i = 0; i < above; i++) found += endRecords(below + i, above - 1 - i, more - 1);
        KNOWN.put(key, found);
        return found;
    }

    /** below: THINGS left under the last one; above: those over it. */
    private static long endRises(int below, int above, int more) {
        if (more < 0 || more > below + above) return 0;
        if (below + above == 0) return 1;
        List<Integer> key = List.of(-4, below, above, more);
        Long known = KNOWN.get(key);
        if (known != null) return known;
        long found = 0;
        for (int i = 0; i < below; i++) found += endRises(i, below + above - 1 - i, more);
        for (int i = 0; i < above; i++) found += endRises(below + i, above - 1 - i, more - 1);
        KNOWN.put(key, found);
        return found;
    }
}
