import java.util.ArrayList;
import java.util.List;

/**
 * 'Refused, and nothing changes, the first that fits': each refused call is made on one of two objects that are
 * alike; then all that can be read off the one must be as with the other.
 */
public final class RefusedTest {
    private interface Call {
        long on(HundredBoxes x);
    }

    /** No number of THINGS, place, kind, way or part, nor would be if some bits were lost. */
    private static final int[] FAR = {
        Integer.MIN_VALUE, Integer.MIN_VALUE + 1, -65536, -256, -32, -3, 19, 32, 64, 256, 257, 65536, 65537,
        1 << 30, Integer.MAX_VALUE - 1, Integer.MAX_VALUE};
    private static final int BAD = HundredBoxes.BAD;
    private static final int NONE = HundredBoxes.NONE;
    private static final int NOT = HundredBoxes.NOT;
    private static final int TWICE = HundredBoxes.TWICE;

    private RefusedTest() {
    }

    public static void main(String[] args) {
        for (int n : new int[] {1, 2, 5, 7, 8, 9, 10, 17, 18}) {
            noSuchNumberOfThings(n);
            noSuchFigures(n);
            noSuchThing(n);
            noSuchPlace(n);
            noSuchKind(n);
            noSuchRow(n);
            noSuchWayOrPart(n);
            outOfBounds(n);
            boxesTwice(n);
            notByLists(n);
        }
        badAheadOfNone();
        badAheadOfNot();
        badAheadOfTwice();
        Check.end("RefusedTest");
    }

    /** Nothing is as at first: THE ORDER, each place, m and the lists (one full, one empty if there are two). */
    private static HundredBoxes used(int n) {
        HundredBoxes x = new HundredBoxes();
        x.things(n);
        long all = Counts.factorial(n);
        for (int place = 0; place < 4; place++) {
            x.row(-1, 0, all / (place + 2));
            x.lay(place);
        }
        x.row(-1, 0, all * 5 / 8);
        x.opens(Math.min(n, 3));
        for (int i = n - 1; i >= 0; i--) x.list(0, i);
        if (n > 2) x.list(2, 1);
        if (n > 3) x.list(n - 1, n - 1);
        if (n > 3) x.list(n - 1, 0);
        return x;
    }

    /** Reading uses the object up: THE ORDER, m and the lists are others afterwards. */
    private static List<Long> read(HundredBoxes x) {
        List<Long> seen = new ArrayList<>();
        for (int what = 0; what < 3; what++) seen.add((long) x.count(what));
        int n = x.count(0);
        for (int place = -1; place < 4; place++) {
            if (place >= 0) x.take(place);
            for (int i = 0; i < n; i++) seen.add((long) x.at(i));
        }
        if (n <= 5) readLists(x, n, seen);
        for (int player = 0; player < n; player++) {
            seen.add((long) x.wins(1, player));
            seen.add((long) x.forget(player));
        }
        return seen;
    }

    /** The least m with which a PLAYER wins whose THING is in a BOX: that BOX's place in the list. */
    private static void readLists(HundredBoxes x, int n, List<Long> seen) {
        for (int box = 0; box < n; box++) {
            for (int player = 0; player < n; player++) {
                x.row(-1, 0, 0);
                x.swap(box, player);
                for (int m = 1; m <= n; m++) {
                    x.opens(m);
                    seen.add((long) x.wins(1, player));
                }
            }
        }
    }

    private static void refused(int n, String told, long want, Call call) {
        HundredBoxes x = used(n);
        Check.due(told + " of " + n, call.on(x), want);
        Check.due("after " + told + " of " + n + " all is as before", read(x).equals(read(used(n))) ? 1 : 0, 1);
    }

    /** FAR, and what is just outside low .. high. */
    private static List<Integer> outside(int low, int high) {
        List<Integer> wrong = new ArrayList<>(List.of(low - 1, high + 1));
        for (int far : FAR) wrong.add(far);
        return wrong;
    }

    private static void noSuchNumberOfThings(int n) {
        for (int wrong : outside(1, 18)) refused(n, "things(" + wrong + ")", BAD, x -> x.things(wrong));
    }

    private static void noSuchFigures(int n) {
        long[] right = Orders.figures(Orders.atRest(n));
        int[] doubled = Orders.atRest(n);
        doubled[n - 1] = n > 1 ? 0 : 1;
        int[] tooGreat = Orders.atRest(n);
        tooGreat[n - 1] = n < 18 ? n : 0;
        int[] firstTooGreat = Orders.atRest(n);
        firstTooGreat[0] = n < 18 ? n : 17;
        long[][] wrong = {
            Orders.figures(doubled), Orders.figures(tooGreat), Orders.figures(firstTooGreat),
            {right[0] + power(Math.min(n, 9)), right[1]}, {right[0], right[1] + power(Math.max(n - 9, 0))},
            {right[0] + power(14), right[1]}, {right[0], right[1] + power(14)},
            {-right[0] - 1, right[1]}, {right[0], -right[1] - 1}, {right[0], Long.MIN_VALUE}, {Long.MIN_VALUE, right[1]},
            {right[0], Long.MAX_VALUE}, {Long.MAX_VALUE, right[1]}, {-1, -1}, {right[1] + 1, right[0] + 1}
        };
        for (long[] told : wrong) {
            refused(n, "order(" + told[0] + ", " + told[1] + ")", BAD, x -> x.order(told[0], told[1]));
        }
    }

    private static long power(int exponent) {
        long power = 1;
        for (int i = 0; i < exponent; i++) power *= 18;
        return power;
    }

    private static void noSuchThing(int n) {
        for (int wrong : outside(0, n - 1)) {
            refused(n, "at(" + wrong + ")", BAD, x -> x.at(wrong));
            refused(n, "swap(" + wrong + ", 0)", BAD, x -> x.swap(wrong, 0));
            refused(n, "swap(0, " + wrong + ")", BAD, x -> x.swap(0, wrong));
            refused(n, "swap(" + wrong + ", " + wrong + ")", BAD, x -> x.swap(wrong, wrong));
            refused(n, "list(" + wrong + ", 0)", BAD, x -> x.list(wrong, 0));
            refused(n, "list(0, " + wrong + ")", BAD, x -> x.list(0, wrong));
            refused(n, "list(" + (n - 1) + ", " + wrong + ")", BAD, x -> x.list(n - 1, wrong));
            refused(n, "forget(" + wrong + ")", BAD, x -> x.forget(wrong));
            refused(n, "wins(0, " + wrong + ")", BAD, x -> x.wins(0, wrong));
            refused(n, "wins(1, " + wrong + ")", BAD, x -> x.wins(1, wrong));
        }
    }

    private static void noSuchPlace(int n) {
        for (int wrong : outside(0, 3)) {
            refused(n, "lay(" + wrong + ")", BAD, x -> x.lay(wrong));
            refused(n, "take(" + wrong + ")", BAD, x -> x.take(wrong));
            refused(n, "then(" + wrong + ")", BAD, x -> x.then(wrong));
        }
    }

    private static void noSuchKind(int n) {
        for (int wrong : outside(0, 7)) {
            refused(n, "number(" + wrong + ")", BAD, x -> x.number(wrong));
            refused(n, "many(" + wrong + ", 1)", BAD, x -> x.many(wrong, 1));
            refused(n, "mean(" + wrong + ", 0)", BAD, x -> x.mean(wrong, 0));
            refused(n, "mean(" + wrong + ", 1)", BAD, x -> x.mean(wrong, 1));
        }
        List<Integer> noRowKinds = outside(-1, 2);
        noRowKinds.addAll(List.of(0, 4, 5, 6, 7, 8));
        for (int wrong : noRowKinds) {
            refused(n, "row(" + wrong + ", 1, 0)", BAD, x -> x.row(wrong, 1, 0));
            refused(n, "place(" + wrong + ")", BAD, x -> x.place(wrong));
        }
    }

    private static void noSuchRow(int n) {
        for (int kind : new int[] {-1, 1, 2}) {
            int v = n / 2 + kind % 2 * (n % 2);
            long all = Counts.ofKind(n, kind, v);
            for (long wrong : new long[] {all, all + 1, all + (1L << 32), Long.MAX_VALUE}) {
                refused(n, "row(" + kind + ", " + v + ", " + wrong + ")", NONE, x -> x.row(kind, v, wrong));
            }
            for (long wrong : new long[] {-1, -2, -all, Integer.MIN_VALUE, -(1L << 32), Long.MIN_VALUE}) {
                refused(n, "row(" + kind + ", " + v + ", " + wrong + ")", BAD, x -> x.row(kind, v, wrong));
            }
        }
        for (int v : outside(1, n)) refused(n, "row(1, " + v + ", 0)", NONE, x -> x.row(1, v, 0));
        for (int v : outside(0, n - 1)) refused(n, "row(2, " + v + ", 0)", NONE, x -> x.row(2, v, 0));
    }

    private static void noSuchWayOrPart(int n) {
        for (int wrong : outside(0, 1)) {
            refused(n, "wins(" + wrong + ", 0)", BAD, x -> x.wins(wrong, 0));
            refused(n, "allWin(" + wrong + ")", BAD, x -> x.allWin(wrong));
            refused(n, "mean(0, " + wrong + ")", BAD, x -> x.mean(0, wrong));
            refused(n, "mean(7, " + wrong + ")", BAD, x -> x.mean(7, wrong));
        }
        for (int wrong : outside(0, 2)) refused(n, "count(" + wrong + ")", BAD, x -> x.count(wrong));
    }

    private static void outOfBounds(int n) {
        for (int wrong : outside(1, n)) refused(n, "opens(" + wrong + ")", BAD, x -> x.opens(wrong));
    }

    private static void boxesTwice(int n) {
        for (int box = 0; box < n; box++) {
            int twice = box;
            refused(n, "list(0, " + box + ")", TWICE, x -> x.list(0, twice));
        }
        if (n > 3) refused(n, "list(" + (n - 1) + ", 0)", TWICE, x -> x.list(n - 1, 0));
    }

    private static void notByLists(int n) {
        if (n > 7) refused(n, "allWin(1)", NOT, x -> x.allWin(1));
    }

    private static void badAheadOfNone() {
        refused(5, "row(0, 99, 999)", BAD, x -> x.row(0, 99, 999));
        refused(5, "row(3, 0, 120)", BAD, x -> x.row(3, 0, 120));
        refused(5, "row(1, 99, -1)", BAD, x -> x.row(1, 99, -1));
        refused(5, "row(2, -1, -1)", BAD, x -> x.row(2, -1, -1));
    }

    private static void badAheadOfNot() {
        refused(8, "allWin(2)", BAD, x -> x.allWin(2));
        refused(18, "allWin(-1)", BAD, x -> x.allWin(-1));
    }

    /** Player 0's list is full: whatever BOX is told is in it, unless there is no such BOX. */
    private static void badAheadOfTwice() {
        refused(5, "list(0, 5)", BAD, x -> x.list(0, 5));
        refused(5, "list(0, -1)", BAD, x -> x.list(0, -1));
        refused(5, "list(5, 0)", BAD, x -> x.list(5, 0));
        refused(5, "list(-1, 0)", BAD, x -> x.list(-1, 0));
    }
}
