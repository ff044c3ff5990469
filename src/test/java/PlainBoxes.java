import java.util.ArrayList;
import java.util.Arrays;
import java.util.List;

/** The whole document in its plainest form: what HundredBoxes is held against. Up to 7 THINGS every ORDER is looked at. */
final class PlainBoxes {
    private static final int BAD = -2;
    private int n;
    private int m;
    private int[] a;
    private final int[][] shelf = new int[4][];
    private final List<List<Integer>> lists = new ArrayList<>();

    PlainBoxes() {
        begin(4);
    }

    private void begin(int things) {
        n = things;
        m = n == 1 ? 1 : 2;
        a = Orders.atRest(n);
        lists.clear();
        for (int p = 0; p < 4; p++) shelf[p] = Orders.atRest(n);
        for (int i = 0; i < n; i++) lists.add(new ArrayList<>());
    }

    private boolean isThing(int i) {
        return 0 <= i && i < n;
    }

    int things(int things) {
        if (things < 1 || things > 18) return BAD;
        begin(things);
        return 1;
    }

    private boolean isListed() {
        return n <= Orders.MOST_LISTED;
    }

    int order(long told, long more) {
        int[] b = new int[n];
        long[] left = {told, more};
        for (int i = 0; i < n; i++) {
            b[i] = (int) (left[i / 9] % 18);
            left[i / 9] /= 18;
        }
        boolean isOrder = left[0] == 0 && left[1] == 0 && Arrays.equals(Arrays.stream(b).sorted().toArray(), Orders.atRest(n));
        if (!isOrder) return BAD;
        a = b;
        return 1;
    }

    int at(int i) {
        return isThing(i) ? a[i] : BAD;
    }

    int swap(int i, int j) {
        if (!isThing(i) || !isThing(j)) return BAD;
        int[] b = a.clone();
        b[i] = a[j];
        b[j] = a[i];
        a = b;
        return 1;
    }

    int lay(int place) {
        if (place < 0 || place > 3) return BAD;
        shelf[place] = a.clone();
        return 1;
    }

    int take(int place) {
        if (place < 0 || place > 3) return BAD;
        a = shelf[place].clone();
        return 1;
    }

    int then(int place) {
        if (place < 0 || place > 3) return BAD;
        int[] b = new int[n];
        for (int i = 0; i < n; i++) b[i] = shelf[place][a[i]];
        a = b;
        return 1;
    }

    int back() {
        int[] b = new int[n];
        for (int i = 0; i < n; i++) b[a[i]] = i;
        a = b;
        return 1;
    }

    int number(int k) {
        return k < 0 || k > 7 ? BAD : Orders.number(a, k);
    }

    long many(int k, int v) {
        if (k < 0 || k > 7) return BAD;
        return isListed() ? Orders.many(n, k, v) : Counts.many(n, k, v);
    }

    long mean(int k, int part) {
        if (k < 0 || k > 7 || part < 0 || part > 1) return BAD;
        long above = isListed() ? Orders.sum(n, k) : Counts.sum(n, k);
        long below = Counts.factorial(n);
        return (part == 0 ? above : below) / Counts.divisor(above, below);
    }

    int row(int kind, int v, long k) {
        if (kind != -1 && kind != 1 && kind != 2 || k < 0) return BAD;
        int[] b = isListed() ? Orders.row(n, kind, v, k) : Counts.row(n, kind, v, k);
        if (b == null) return -1;
        a = b.clone();
        return 1;
    }

    long place(int kind) {
        if (kind != -1 && kind != 1 && kind != 2) return BAD;
        return isListed() ? Orders.place(a, kind) : Counts.place(a, kind);
    }

    int toRounds() {
        a = Orders.madeRounds(a);
        return 1;
    }

    int toRecords() {
        a = Orders.madeRecords(a).clone();
        return 1;
    }

    int opens(int may) {
        if (may < 1 || may > n) return BAD;
        int before = m;
        m = may;
        return before;
    }

    int list(int player, int box) {
        if (!isThing(player) || !isThing(box)) return BAD;
        if (lists.get(player).contains(box)) return -4;
        lists.get(player).add(box);
        return lists.get(player).size();
    }

    int forget(int player) {
        if (!isThing(player)) return BAD;
        int had = lists.get(player).size();
        lists.get(player).clear();
        return had;
    }

    private boolean finds(int[] b, int way, int player) {
        int box = player;
        for (int i = 0; i < m; i++) {
            if (way == 1) {
                if (i >= lists.get(player).size()) return false;
                box = lists.get(player).get(i);
            }
            if (b[box] == player) return true;
            box = b[box];
        }
        return false;
    }

    int wins(int way, int player) {
        if (way < 0 || way > 1 || !isThing(player)) return BAD;
        return finds(a, way, player) ? 1 : 0;
    }

    long allWin(int way) {
        if (way < 0 || way > 1) return BAD;
        if (!isListed()) return way == 1 ? -3 : Counts.withRoundsUpTo(n, m);
        long won = 0;
        for (int[] b : Orders.all(n)) {
            boolean all = true;
            for (int player = 0; player < n; player++) all &= finds(b, way, player);
            won += all ? 1 : 0;
        }
        return won;
    }

    int count(int what) {
        switch (what) {
            case 0: return n;
            case 1: return m;
            case 2: return lists.stream().mapToInt(List::size).sum();
            default: return BAD;
        }
    }
}
