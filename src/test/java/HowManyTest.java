import java.util.Random;

/** Promises 11 to 16: HOW MANY, MEAN, ROW and its place, MADE ROUNDS and MADE RECORDS. */
public final class HowManyTest {
    private static final Random RANDOM = new Random(16);
    private static final int[] FAR = {Integer.MIN_VALUE, Integer.MIN_VALUE + 1, -2, -1, 300, Integer.MAX_VALUE};
    private static final int[] ROW_KINDS = {-1, 1, 2};

    private HowManyTest() {
    }

    public static void main(String[] args) {
        manyOfFew();
        manyOfEachSize();
        manyAtTheEdges();
        manyRefused();
        meanOfFew();
        meanOfEachSize();
        meanRefused();
        rowsOfFew();
        rowsOfEachSize();
        rowsAtTheEdges();
        rowRefused();
        placeRefused();
        roundsAndRecordsOfFew();
        roundsAndRecordsOfMany();
        Check.end("HowManyTest");
    }

    private static void manyOfFew() {
        for (int n = 1; n <= Orders.MOST_LISTED; n++) {
            for (int k = 0; k < 8; k++) {
                HundredBoxes x = Make.of(n);
                for (int v = -2; v <= 30; v++) {
                    Check.due("promise 11: many(" + k + ", " + v + ") of " + n, x.many(k, v), Orders.many(n, k, v));
                }
            }
        }
    }

    /** All v together are all ORDERS; the NUMBERS all together are what mean says. */
    private static void manyOfEachSize() {
        for (int n = 1; n <= 18; n++) {
            for (int k = 0; k < 8; k++) {
                HundredBoxes x = Make.of(n);
                long all = 0;
                long sum = 0;
                for (int v = 0; v <= 250; v++) {
                    all += x.many(k, v);
                    sum += v * x.many(k, v);
                }
                Check.due("promise 11: all of kind " + k + " of " + n, all, Counts.factorial(n));
                long above = x.mean(k, 0);
                long below = x.mean(k, 1);
                Check.due("promise 12: mean " + k + " of " + n, above * (Counts.factorial(n) / below), sum);
                Check.due("promise 12: divides " + k + " of " + n, Counts.factorial(n) % below, 0);
            }
        }
    }

    /** To and fro between numbers of THINGS: no answer of one may stay for another. */
    private static void manyAtTheEdges() {
        HundredBoxes x = Make.of(18);
        for (int round = 0; round < 2; round++) {
            x.things(18);
            long[] greatest = {18, 18, 17, 18, 18, 153, 18, 210};
            // 210 TURNS: ROUNDS of 5, 6, 7, or of 1, 2, 3, 5, 7.
            long[] ways = {1, 1, 1, 1, Counts.factorial(17), 1, 1, 2 * (Counts.factorial(18) / 210)};
            for (int k = 0; k < 8; k++) {
                Check.due("promise 11: greatest of kind " + k, x.many(k, (int) greatest[k]), ways[k]);
                Check.due("promise 11: above the greatest of kind " + k, x.many(k, (int) greatest[k] + 1), 0);
            }
            long[] atNone = {0, 0, 1, 2355301661033953L, 0, 1, 0, 0};
            for (int k = 0; k < 8; k++) Check.due("promise 11: many(" + k + ", 0)", x.many(k, 0), atNone[k]);
            Check.due("promise 11: many(7, 1)", x.many(7, 1), 1);
            Check.due("promise 11: many(7, 17)", x.many(7, 17), Counts.factorial(18) / 17);
            Check.due("promise 11: many(3, 17)", x.many(3, 17), 0);
            Check.due("promise 11: many(6, 17)", x.many(6, 17), 17 * 17);
            x.things(1);
            long[] one = {1, 1, 0, 1, 1, 0, 1, 1};
            for (int k = 0; k < 8; k++) {
                Check.due("promise 11: many(" + k + ", 1) of 1", x.many(k, 1), one[k]);
                Check.due("promise 11: many(" + k + ", 0) of 1", x.many(k, 0), 1 - one[k]);
            }
        }
    }

    private static void manyRefused() {
        HundredBoxes x = Make.of(18);
        for (int v : FAR) {
            for (int k = 0; k < 8; k++) Check.due("promise 11: many(" + k + ", " + v + ")", x.many(k, v), 0);
            Check.due("promise 11: many(8, " + v + ")", x.many(8, v), -2);
        }
        for (int k : new int[] {-1, 8, Integer.MIN_VALUE, Integer.MAX_VALUE}) {
            Check.due("promise 11: many(" + k + ", 1)", x.many(k, 1), -2);
        }
    }

    private static void meanOfFew() {
        for (int n = 1; n <= Orders.MOST_LISTED; n++) {
            HundredBoxes x = Make.of(n);
            for (int k = 0; k < 8; k++) {
                long common = Counts.divisor(Orders.sum(n, k), Counts.factorial(n));
                Check.due("promise 12: mean(" + k + ", 0) of " + n, x.mean(k, 0), Orders.sum(n, k) / common);
                Check.due("promise 12: mean(" + k + ", 1) of " + n, x.mean(k, 1), Counts.factorial(n) / common);
            }
        }
    }

    private static void meanOfEachSize() {
        for (int n = 1; n <= 18; n++) {
            HundredBoxes x = Make.of(n);
            for (int k = 0; k < 8; k++) {
                Check.due("promise 12: lowest terms of " + k, Counts.divisor(x.mean(k, 0), x.mean(k, 1)), 1);
            }
            fraction(x, 2, n - 1, 2);
            fraction(x, 3, 1, 1);
            fraction(x, 5, n * (n - 1), 4);
            Check.due("promise 12: RECORDS as ROUNDS, above", x.mean(1, 0), x.mean(0, 0));
            Check.due("promise 12: RECORDS as ROUNDS, below", x.mean(1, 1), x.mean(0, 1));
        }
    }

    private static void fraction(HundredBoxes x, int k, long above, long below) {
        long common = Counts.divisor(above, below);
        Check.due("promise 12: mean(" + k + ", 0)", x.mean(k, 0), above / common);
        Check.due("promise 12: mean(" + k + ", 1)", x.mean(k, 1), below / common);
    }

    private static void meanRefused() {
        HundredBoxes x = Make.of(5);
        for (int wrong : new int[] {-1, 8, Integer.MIN_VALUE, Integer.MAX_VALUE}) {
            Check.due("promise 12: mean(" + wrong + ", 0)", x.mean(wrong, 0), -2);
            Check.due("promise 12: mean(0, " + wrong + ")", x.mean(0, wrong), -2);
        }
        Check.due("promise 12: mean(0, 2)", x.mean(0, 2), -2);
    }

    private static void rowsOfFew() {
        for (int n = 1; n <= 6; n++) {
            for (int kind : ROW_KINDS) {
                for (int v = -1; v <= n + 1; v++) rowsOf(n, kind, v);
            }
        }
    }

    private static void rowsOf(int n, int kind, int v) {
        long k = 0;
        for (int[] a : Orders.all(n)) {
            if (Orders.isOfKind(a, kind, v)) {
                HundredBoxes x = Make.of(n);
                Check.due("promise 13: row(" + kind + ", " + v + ", " + k + ")", x.row(kind, v, k), 1);
                Check.row("promise 13: row(" + kind + ", " + v + ", " + k + ")", x, a);
                Check.due("promise 14: place(" + kind + ")", x.place(kind), k);
                Check.row("promise 14: the order stays", x, a);
                k++;
            }
        }
        HundredBoxes x = Make.of(n);
        x.swap(0, n - 1);
        x.lay(0);
        Check.due("promise 13: row(" + kind + ", " + v + ", " + k + ") of " + n, x.row(kind, v, k), HundredBoxes.NONE);
        Check.due("promise 13: none, the order stays", x.at(0), n - 1);
    }

    private static void rowsOfEachSize() {
        for (int n = 7; n <= 18; n++) {
            for (int kind : ROW_KINDS) {
                for (int v = kind == 1 ? 1 : 0; v < (kind == -1 ? 1 : n); v++) {
                    HundredBoxes x = Make.of(n);
                    long all = kind == -1 ? Counts.factorial(n) : x.many(kind, v);
                    for (int round = 0; round < 20; round++) {
                        rowAndBack(x, kind, v, Math.floorMod(RANDOM.nextLong(), all));
                    }
                    rowAndBack(x, kind, v, 0);
                    rowAndBack(x, kind, v, all - 1);
                    Check.due("promise 13: row(" + kind + ", " + v + ", " + all + ")", x.row(kind, v, all), -1);
                    rowsGrow(x, n, kind, v, all);
                }
            }
        }
    }

    private static void rowAndBack(HundredBoxes x, int kind, int v, long k) {
        String call = "row(" + kind + ", " + v + ", " + k + ")";
        Check.due("promise 13: " + call, x.row(kind, v, k), 1);
        if (kind != -1) Check.due("promise 13: number after " + call, x.number(kind), v);
        Check.due("promise 14: place after " + call, x.place(kind), k);
    }

    /** The next ROW of a kind stands behind this one among all ORDERS too. */
    private static void rowsGrow(HundredBoxes x, int n, int kind, int v, long all) {
        if (all < 2) return;
        long k = Math.floorMod(RANDOM.nextLong(), all - 1);
        x.row(kind, v, k);
        long ahead = x.place(-1);
        x.row(kind, v, k + 1);
        Check.due("promise 13: rows grow, kind " + kind + " of " + n, x.place(-1) > ahead ? 1 : 0, 1);
    }

    private static void rowsAtTheEdges() {
        HundredBoxes x = Make.of(18);
        Check.due("promise 13: the last of all", x.row(-1, Integer.MIN_VALUE, Counts.factorial(18) - 1), 1);
        Check.row("promise 13: the last of all", x, 17, 16, 15, 14, 13, 12, 11, 10, 9, 8, 7, 6, 5, 4, 3, 2, 1, 0);
        Check.due("promise 14: the last with no rise", x.place(2), 0);
        Check.due("promise 14: the last with one record", x.place(1), Counts.factorial(17) - 1);
        Check.due("promise 13: the first of all", x.row(-1, Integer.MAX_VALUE, 0), 1);
        Check.row("promise 13: the first of all", x, Orders.atRest(18));
        x.row(1, 1, 0);
        Check.row("promise 13: the first with one record", x, 17, 0, 1, 2, 3, 4, 5, 6, 7, 8, 9, 10, 11, 12, 13, 14, 15, 16);
    }

    private static void rowRefused() {
        HundredBoxes x = Make.of(18);
        x.swap(0, 17);
        for (int kind : new int[] {-2, 0, 3, 7, Integer.MIN_VALUE, Integer.MAX_VALUE}) {
            Check.due("promise 13: row(" + kind + ", 1, 0)", x.row(kind, 1, 0), HundredBoxes.BAD);
        }
        for (int kind : ROW_KINDS) {
            Check.due("promise 13: row(" + kind + ", 1, -1)", x.row(kind, 1, -1), HundredBoxes.BAD);
            Check.due("promise 13: row(" + kind + ", 99, least)", x.row(kind, 99, Long.MIN_VALUE), HundredBoxes.BAD);
            Check.due("promise 13: row(" + kind + ", 1, most)", x.row(kind, 1, Long.MAX_VALUE), HundredBoxes.NONE);
        }
        for (int v : FAR) {
            Check.due("promise 13: row(1, " + v + ", 0)", x.row(1, v, 0), HundredBoxes.NONE);
            Check.due("promise 13: row(2, " + v + ", 0)", x.row(2, v, 0), HundredBoxes.NONE);
        }
        Check.due("promise 13: refused, the order stays", x.at(0), 17);
    }

    private static void placeRefused() {
        HundredBoxes x = Make.of(6);
        for (int kind : new int[] {-2, 0, 3, 7, Integer.MIN_VALUE, Integer.MAX_VALUE}) {
            Check.due("promise 14: place(" + kind + ")", x.place(kind), -2);
        }
    }

    private static void roundsAndRecordsOfFew() {
        for (int n = 1; n <= 6; n++) {
            for (int[] a : Orders.all(n)) {
                HundredBoxes x = OrderTest.of(a);
                Check.due("promise 15: toRounds()", x.toRounds(), 1);
                Check.row("promise 15", x, Orders.madeRounds(a));
                Check.due("promise 16: toRecords()", x.toRecords(), 1);
                Check.row("promise 16", x, a);
            }
        }
    }

    private static void roundsAndRecordsOfMany() {
        for (int round = 0; round < 500; round++) {
            int[] a = Orders.shuffled(7 + round % 12, RANDOM);
            HundredBoxes x = OrderTest.of(a);
            int records = x.number(1);
            x.toRounds();
            Check.row("promise 15", x, Orders.madeRounds(a));
            Check.due("promise 15: as many rounds", x.number(0), records);
            x.toRecords();
            Check.row("promise 16", x, a);
            x.toRecords();
            x.toRounds();
            Check.row("promise 16: the other way about", x, a);
        }
    }
}
