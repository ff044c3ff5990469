import java.util.Arrays;
import java.util.Random;

/** Promises 11 to 16: for each sentence that names a boundary case, a test of its own. */
public final class HowManyEdgesTest {
    private static final int BAD = HundredBoxes.BAD;
    private static final int NONE = HundredBoxes.NONE;
    private static final int[] ROW_KINDS = {-1, 1, 2};
    private static final Random RANDOM = new Random(6);

    private HowManyEdgesTest() {
    }

    public static void main(String[] args) {
        firstAndLastKind();
        anyV();
        leastAndGreatestV();
        everyV();
        allButOneAtRest();
        manyOfOneThing();
        manyLooksAtNoOrder();
        manyAfterOtherThings();
        meanAfterOtherThings();
        firstAndLastPart();
        meanOfNought();
        meanThatIsWhole();
        everyMean();
        greatestSums();
        firstKindAndLastKindOfRow();
        rowsByTheFirstThenTheSecond();
        vIsNotLookedAt();
        firstRow();
        lastRow();
        noneBehindTheLastRow();
        noneWithSoManyRecords();
        noneWithSoManyRises();
        rowBelowNought();
        rowsAboveAnInt();
        rowsOfOneThing();
        rowChangesNothingElse();
        placeOfTheFirstAndLast();
        placeOfDrawnOrders();
        placeLooksAtItsKindOnly();
        pieceOfOneGoesToItself();
        noCutAheadOfTheFirst();
        theLastPieceEnds();
        oneRoundIsOnePiece();
        roundsAndRecordsOfOneThing();
        thereAndBack();
        Check.end("HowManyEdgesTest");
    }

    private static void firstAndLastKind() {
        HundredBoxes x = new HundredBoxes();
        Check.due("promise 11: many(0, 4)", x.many(0, 4), 1);
        Check.due("promise 11: many(7, 3)", x.many(7, 3), 8);
        for (int wrong : new int[] {-1, 8, Integer.MIN_VALUE, Integer.MAX_VALUE}) {
            Check.due("promise 11: many(" + wrong + ", 1)", x.many(wrong, 1), BAD);
            Check.due("promise 11: many(" + wrong + ", -1)", x.many(wrong, -1), BAD);
        }
    }

    private static void anyV() {
        int[] far = {Integer.MIN_VALUE, Integer.MIN_VALUE + 1, -65536, -1, 211, 256, 65536, 1 << 30, Integer.MAX_VALUE};
        for (int n : new int[] {1, 4, 18}) {
            HundredBoxes x = Make.of(n);
            for (int k = 0; k < 8; k++) {
                for (int v : far) Check.due("promise 11: many(" + k + ", " + v + ") of " + n, x.many(k, v), 0);
            }
        }
    }

    private static void leastAndGreatestV() {
        for (int n = 2; n <= 18; n++) {
            HundredBoxes x = Make.of(n);
            long rounds = Counts.factorial(n - 1);
            long unrest = Counts.many(n, 3, 0);
            long[] least = {rounds, rounds, 1, unrest, 1, 1, 1, 1};
            long[] greatest = {1, 1, 1, 1, rounds, 1, 1, Counts.many(n, 7, Counts.greatest(n, 7))};
            for (int k = 0; k < 8; k++) {
                int low = Counts.least(n, k);
                int high = Counts.greatest(n, k);
                Check.due("promise 11: the least of kind " + k + " of " + n, x.many(k, low), least[k]);
                Check.due("promise 11: below it, kind " + k + " of " + n, x.many(k, low - 1), 0);
                Check.due("promise 11: the greatest of kind " + k + " of " + n, x.many(k, high), greatest[k]);
                Check.due("promise 11: above it, kind " + k + " of " + n, x.many(k, high + 1), 0);
            }
        }
    }

    private static void everyV() {
        for (int n = 1; n <= 18; n++) {
            for (int k = 0; k < 8; k++) {
                HundredBoxes x = Make.of(n);
                for (int v = -1; v <= 230; v++) {
                    Check.due("promise 11: many(" + k + ", " + v + ") of " + n, x.many(k, v), Counts.many(n, k, v));
                }
            }
        }
    }

    private static void allButOneAtRest() {
        for (int n = 2; n <= 18; n++) {
            Check.due("promise 11: all but one at rest of " + n, Make.of(n).many(3, n - 1), 0);
            Check.due("promise 11: all but two at rest of " + n, Make.of(n).many(3, n - 2), n * (n - 1) / 2);
        }
    }

    private static void manyOfOneThing() {
        int[] only = {1, 1, 0, 1, 1, 0, 1, 1};
        for (int k = 0; k < 8; k++) {
            HundredBoxes x = Make.of(1);
            for (int v = -1; v <= 2; v++) {
                Check.due("promise 11: many(" + k + ", " + v + ") of 1", x.many(k, v), v == only[k] ? 1 : 0);
            }
        }
    }

    private static void manyLooksAtNoOrder() {
        HundredBoxes x = Make.of(6);
        x.row(-1, 0, 555);
        x.opens(6);
        x.list(3, 3);
        for (int k = 0; k < 8; k++) Check.due("promise 11: many(" + k + ", 2)", x.many(k, 2), Orders.many(6, k, 2));
        Check.due("promise 11: THE ORDER stays", x.place(-1), 555);
    }

    /** One object through every number of THINGS and kind: no answer may come from another of them. */
    private static void manyAfterOtherThings() {
        HundredBoxes x = new HundredBoxes();
        for (int step = 0; step < 36; step++) {
            int n = step < 18 ? 18 - step : step - 17;
            x.things(n);
            for (int k = 0; k < 8; k++) {
                int v = (n + 1) / 2;
                Check.due("promise 11: many(" + k + ", " + v + ") of " + n + " among others", x.many(k, v), Counts.many(n, k, v));
            }
        }
    }

    private static void meanAfterOtherThings() {
        HundredBoxes x = new HundredBoxes();
        for (int step = 0; step < 36; step++) {
            int n = step < 18 ? step + 1 : 36 - step;
            x.things(n);
            for (int k = 0; k < 8; k++) {
                long above = Counts.sum(n, k);
                long common = Counts.divisor(above, Counts.factorial(n));
                Check.due("promise 12: mean(" + k + ", 0) of " + n + " among others", x.mean(k, 0), above / common);
            }
        }
    }

    private static void firstAndLastPart() {
        HundredBoxes x = new HundredBoxes();
        Check.due("promise 12: mean(0, 0)", x.mean(0, 0), 25);
        Check.due("promise 12: mean(0, 1)", x.mean(0, 1), 12);
        for (int k = 0; k < 8; k++) {
            Check.due("promise 12: mean(" + k + ", -1)", x.mean(k, -1), BAD);
            Check.due("promise 12: mean(" + k + ", 2)", x.mean(k, 2), BAD);
        }
        for (int part = 0; part < 2; part++) {
            Check.due("promise 12: mean(-1, " + part + ")", x.mean(-1, part), BAD);
            Check.due("promise 12: mean(8, " + part + ")", x.mean(8, part), BAD);
        }
    }

    /** Nothing rises or is out of order in a row of one: 0 by 1. */
    private static void meanOfNought() {
        HundredBoxes x = Make.of(1);
        int[] above = {1, 1, 0, 1, 1, 0, 1, 1};
        for (int k = 0; k < 8; k++) {
            Check.due("promise 12: mean(" + k + ", 0) of 1", x.mean(k, 0), above[k]);
            Check.due("promise 12: mean(" + k + ", 1) of 1", x.mean(k, 1), 1);
        }
    }

    private static void meanThatIsWhole() {
        for (int n = 1; n <= 18; n++) {
            Check.due("promise 12: mean(3, 0) of " + n, Make.of(n).mean(3, 0), 1);
            Check.due("promise 12: mean(3, 1) of " + n, Make.of(n).mean(3, 1), 1);
            Check.due("promise 12: mean(2, 0) of " + n, Make.of(n).mean(2, 0), n % 2 == 1 ? (n - 1) / 2 : n - 1);
            Check.due("promise 12: mean(2, 1) of " + n, Make.of(n).mean(2, 1), n % 2 == 1 ? 1 : 2);
        }
    }

    private static void everyMean() {
        for (int n = 1; n <= 18; n++) {
            HundredBoxes x = Make.of(n);
            for (int k = 0; k < 8; k++) {
                long above = Counts.sum(n, k);
                long below = Counts.factorial(n);
                long common = Counts.divisor(above, below);
                Check.due("promise 12: mean(" + k + ", 0) of " + n, x.mean(k, 0), above / common);
                Check.due("promise 12: mean(" + k + ", 1) of " + n, x.mean(k, 1), below / common);
            }
        }
    }

    /** 153 / 2 pairs OUT, so 153 18! / 2 all together: far above an int, and below a long's end. */
    private static void greatestSums() {
        Check.due("promise 12: mean(5, 0) of 18", Make.of(18).mean(5, 0), 153);
        Check.due("promise 12: mean(5, 1) of 18", Make.of(18).mean(5, 1), 2);
        Check.due("promise 12: mean(0, 0) of 18", Make.of(18).mean(0, 0), 14274301);
        Check.due("promise 12: mean(0, 1) of 18", Make.of(18).mean(0, 1), 4084080);
    }

    private static void firstKindAndLastKindOfRow() {
        for (int wrong : new int[] {-2, 0, 3, 4, 5, 6, 7, 8, Integer.MIN_VALUE, Integer.MAX_VALUE}) {
            HundredBoxes x = Make.of(5);
            x.swap(0, 4);
            Check.due("promise 13: row(" + wrong + ", 1, 0)", x.row(wrong, 1, 0), BAD);
            Check.due("promise 14: place(" + wrong + ")", x.place(wrong), BAD);
            Check.row("promise 13: refused", x, 4, 1, 2, 3, 0);
        }
        for (int kind : ROW_KINDS) {
            Check.due("promise 13: row(" + kind + ", 1, 0)", Make.of(5).row(kind, 1, 0), 1);
            Check.due("promise 14: place(" + kind + ")", Make.of(5).place(kind), 0);
        }
    }

    private static void rowsByTheFirstThenTheSecond() {
        int[][] all = {{0, 1, 2}, {0, 2, 1}, {1, 0, 2}, {1, 2, 0}, {2, 0, 1}, {2, 1, 0}};
        int[][] records = {{0, 2, 1}, {1, 0, 2}, {1, 2, 0}};
        int[][] rises = {{0, 2, 1}, {1, 0, 2}, {1, 2, 0}, {2, 0, 1}};
        rowsAre(-1, 0, all);
        rowsAre(1, 2, records);
        rowsAre(2, 1, rises);
    }

    private static void rowsAre(int kind, int v, int[][] rows) {
        HundredBoxes x = Make.of(3);
        for (int k = 0; k < rows.length; k++) {
            Check.due("promise 13: row(" + kind + ", " + v + ", " + k + ")", x.row(kind, v, k), 1);
            Check.row("promise 13: row(" + kind + ", " + v + ", " + k + ")", x, rows[k]);
            Check.due("promise 14: place(" + kind + ")", x.place(kind), k);
        }
        Check.due("promise 13: row(" + kind + ", " + v + ", " + rows.length + ")", x.row(kind, v, rows.length), NONE);
    }

    private static void vIsNotLookedAt() {
        for (int v : new int[] {Integer.MIN_VALUE, -2, -1, 0, 1, 4, 5, 19, Integer.MAX_VALUE}) {
            HundredBoxes x = new HundredBoxes();
            Check.due("promise 13: row(-1, " + v + ", 23)", x.row(-1, v, 23), 1);
            Check.row("promise 13: row(-1, " + v + ", 23)", x, 3, 2, 1, 0);
            Check.due("promise 13: row(-1, " + v + ", 24)", x.row(-1, v, 24), NONE);
            Check.due("promise 13: row(-1, " + v + ", -1)", x.row(-1, v, -1), BAD);
        }
    }

    /** All at rest; with v RECORDS: 0, 1, .. v - 2, the greatest, and the others; with v RISES: falls last. */
    private static void firstRow() {
        for (int n = 1; n <= 18; n++) {
            HundredBoxes x = Make.of(n);
            x.swap(0, n - 1);
            Check.due("promise 13: row(-1, 0, 0)", x.row(-1, 0, 0), 1);
            Check.row("promise 13: row(-1, 0, 0)", x, Orders.atRest(n));
            for (int v = 1; v <= n; v++) {
                int[] records = Orders.atRest(n);
                records[v - 1] = n - 1;
                for (int i = v; i < n; i++) records[i] = i - 1;
                x = Make.of(n);
                Check.due("promise 13: row(1, " + v + ", 0) of " + n, x.row(1, v, 0), 1);
                Check.row("promise 13: row(1, " + v + ", 0)", x, records);
                Check.due("promise 14: place(1) of it", x.place(1), 0);
                int[] rises = Orders.atRest(n);
                for (int i = v - 1; i < n; i++) rises[i] = n - 1 - (i - v + 1);
                Check.due("promise 13: row(2, " + (v - 1) + ", 0) of " + n, x.row(2, v - 1, 0), 1);
                Check.row("promise 13: row(2, " + (v - 1) + ", 0)", x, rises);
                Check.due("promise 14: place(2) of it", x.place(2), 0);
            }
        }
    }

    /** All turned about; with v RECORDS: the v greatest rise, the others fall; with v RISES: falls first. */
    private static void lastRow() {
        for (int n = 1; n <= 18; n++) {
            HundredBoxes x = Make.of(n);
            Check.due("promise 13: the last of all", x.row(-1, 0, Counts.factorial(n) - 1), 1);
            Check.row("promise 13: the last of all", x, Make.turnedAbout(n));
            for (int v = 1; v <= n; v++) {
                int[] records = Make.turnedAbout(n);
                for (int i = 0; i < v; i++) records[i] = n - v + i;
                x = Make.of(n);
                Check.due("promise 13: the last with " + v + " RECORDS", x.row(1, v, Counts.many(n, 1, v) - 1), 1);
                Check.row("promise 13: the last with " + v + " RECORDS", x, records);
                Check.due("promise 14: place(1) of it", x.place(1), Counts.many(n, 1, v) - 1);
                int[] rises = Make.turnedAbout(n);
                for (int i = n - v; i < n; i++) rises[i] = i - (n - v);
                Check.due("promise 13: the last with " + (v - 1) + " RISES", x.row(2, v - 1, Counts.many(n, 2, v - 1) - 1), 1);
                Check.row("promise 13: the last with " + (v - 1) + " RISES", x, rises);
                Check.due("promise 14: place(2) of it", x.place(2), Counts.many(n, 2, v - 1) - 1);
            }
        }
    }

    private static void none(HundredBoxes x, int kind, int v, long k) {
        int n = x.count(0);
        x.row(-1, 0, Counts.factorial(n) / 2);
        Check.due("promise 13: row(" + kind + ", " + v + ", " + k + ") of " + n, x.row(kind, v, k), NONE);
        Check.due("promise 13: none, THE ORDER stays", x.place(-1), Counts.factorial(n) / 2);
    }

    private static void noneBehindTheLastRow() {
        for (int n = 1; n <= 18; n++) {
            HundredBoxes x = Make.of(n);
            for (int kind : ROW_KINDS) {
                for (int v = kind == 1 ? 1 : 0; v < n; v++) {
                    long all = Counts.ofKind(n, kind, v);
                    none(x, kind, v, all);
                }
                none(x, kind, 1, Long.MAX_VALUE);
                none(x, kind, 1, Long.MAX_VALUE - 1);
            }
        }
    }

    private static void noneWithSoManyRecords() {
        for (int n = 1; n <= 18; n++) {
            HundredBoxes x = Make.of(n);
            for (int v : new int[] {Integer.MIN_VALUE, -1, 0, n + 1, 19, 257, Integer.MAX_VALUE}) none(x, 1, v, 0);
            Check.due("promise 13: row(1, " + n + ", 0)", x.row(1, n, 0), 1);
            none(x, 1, n, 1);
        }
    }

    private static void noneWithSoManyRises() {
        for (int n = 1; n <= 18; n++) {
            HundredBoxes x = Make.of(n);
            for (int v : new int[] {Integer.MIN_VALUE, -1, n, 19, 257, Integer.MAX_VALUE}) none(x, 2, v, 0);
            for (int v : new int[] {0, n - 1}) {
                Check.due("promise 13: row(2, " + v + ", 0) of " + n, x.row(2, v, 0), 1);
                none(x, 2, v, 1);
            }
        }
    }

    private static void rowBelowNought() {
        for (int n : new int[] {1, 4, 18}) {
            HundredBoxes x = Make.of(n);
            x.swap(0, n - 1);
            long[] wrong = {-1, -2, Integer.MIN_VALUE, -(1L << 32), 1 - (1L << 32), Long.MIN_VALUE, Long.MIN_VALUE + 1};
            for (int kind : ROW_KINDS) {
                for (long k : wrong) {
                    Check.due("promise 13: row(" + kind + ", 1, " + k + ")", x.row(kind, 1, k), BAD);
                    Check.due("promise 13: row(" + kind + ", 99, " + k + ")", x.row(kind, 99, k), BAD);
                }
            }
            Check.due("promise 13: k below 0, THE ORDER stays", x.at(0), n - 1);
        }
    }

    /** 2^32 and one more: another ROW with 18 THINGS, none with 4. */
    private static void rowsAboveAnInt() {
        long k = (1L << 32) + 1;
        HundredBoxes x = Make.of(18);
        for (int kind : ROW_KINDS) {
            Check.due("promise 13: row(" + kind + ", 9, 2^32 + 1)", x.row(kind, 9, k), 1);
            Check.row("promise 13: row(" + kind + ", 9, 2^32 + 1)", x, Counts.row(18, kind, 9, k));
            Check.due("promise 14: place(" + kind + ")", x.place(kind), k);
            none(Make.of(4), kind, 2, k);
        }
    }

    private static void rowsOfOneThing() {
        HundredBoxes x = Make.of(1);
        Check.due("promise 13: row(-1, 7, 0) of 1", x.row(-1, 7, 0), 1);
        Check.due("promise 13: row(-1, 7, 1) of 1", x.row(-1, 7, 1), NONE);
        Check.due("promise 13: row(1, 1, 0) of 1", x.row(1, 1, 0), 1);
        Check.due("promise 13: row(1, 0, 0) of 1", x.row(1, 0, 0), NONE);
        Check.due("promise 13: row(2, 0, 0) of 1", x.row(2, 0, 0), 1);
        Check.due("promise 13: row(2, 1, 0) of 1", x.row(2, 1, 0), NONE);
        for (int kind : ROW_KINDS) Check.due("promise 14: place(" + kind + ") of 1", x.place(kind), 0);
        Check.row("promise 13: of 1", x, 0);
    }

    private static void rowChangesNothingElse() {
        HundredBoxes x = Make.of(5);
        x.opens(4);
        x.list(4, 0);
        for (int kind : ROW_KINDS) x.row(kind, 2, 7);
        Check.due("promise 13: m stays", x.count(1), 4);
        Check.due("promise 13: the lists stay", x.count(2), 1);
        for (int place = 0; place < 4; place++) {
            x.take(place);
            Check.row("promise 13: place " + place + " stays", x, Orders.atRest(5));
        }
    }

    private static void placeOfTheFirstAndLast() {
        for (int n = 1; n <= 18; n++) {
            HundredBoxes x = Make.of(n);
            for (int kind : ROW_KINDS) Check.due("promise 14: place(" + kind + ") at rest of " + n, x.place(kind), 0);
            x = OrderTest.of(Make.turnedAbout(n));
            Check.due("promise 14: place(-1) of the last of " + n, x.place(-1), Counts.factorial(n) - 1);
            Check.due("promise 14: place(1) of the last of " + n, x.place(1), Counts.factorial(n - 1) - 1);
            Check.due("promise 14: place(2) of the last of " + n, x.place(2), 0);
            Check.row("promise 14: THE ORDER stays", x, Make.turnedAbout(n));
        }
    }

    private static void placeOfDrawnOrders() {
        for (int n = 1; n <= 18; n++) {
            for (int round = 0; round < 30; round++) {
                int[] a = Orders.shuffled(n, RANDOM);
                HundredBoxes x = OrderTest.of(a);
                for (int kind : ROW_KINDS) {
                    Check.due("promise 14: place(" + kind + ") of " + Arrays.toString(a), x.place(kind), Counts.place(a, kind));
                }
            }
        }
    }

    /** 1 0 2 has two RECORDS, as 0 2 1 has, and one RISE, as 0 2 1 has; 2 0 1 has one RISE, and is the first with one RECORD. */
    private static void placeLooksAtItsKindOnly() {
        HundredBoxes x = OrderTest.of(2, 0, 1);
        Check.due("promise 14: place(-1) of 2 0 1", x.place(-1), 4);
        Check.due("promise 14: place(1) of 2 0 1", x.place(1), 0);
        Check.due("promise 14: place(2) of 2 0 1", x.place(2), 3);
        x = OrderTest.of(1, 0, 2);
        Check.due("promise 14: place(-1) of 1 0 2", x.place(-1), 2);
        Check.due("promise 14: place(1) of 1 0 2", x.place(1), 1);
        Check.due("promise 14: place(2) of 1 0 2", x.place(2), 1);
    }

    private static void made(int[] row, int... rounds) {
        HundredBoxes x = OrderTest.of(row);
        Check.due("promise 15: toRounds() of " + Arrays.toString(row), x.toRounds(), 1);
        Check.row("promise 15: toRounds() of " + Arrays.toString(row), x, rounds);
        Check.due("promise 16: toRecords() of " + Arrays.toString(rounds), x.toRecords(), 1);
        Check.row("promise 16: toRecords() of " + Arrays.toString(rounds), x, row);
    }

    private static int[] row(int... a) {
        return a;
    }

    private static void pieceOfOneGoesToItself() {
        for (int n = 1; n <= 18; n++) made(Orders.atRest(n), Orders.atRest(n));
        made(row(0, 3, 1, 2, 4), 0, 2, 3, 1, 4);
    }

    private static void noCutAheadOfTheFirst() {
        made(row(1, 0, 2), 1, 0, 2);
        made(row(2, 1, 0, 3), 2, 0, 1, 3);
    }

    private static void theLastPieceEnds() {
        made(row(0, 2, 1), 0, 2, 1);
        made(row(1, 0, 4, 2, 3), 1, 0, 3, 4, 2);
        made(row(0, 1, 4, 3, 2), 0, 1, 4, 2, 3);
    }

    private static void oneRoundIsOnePiece() {
        for (int n = 2; n <= 18; n++) {
            int[] oneBack = new int[n];
            for (int i = 0; i < n; i++) oneBack[i] = (i + n - 1) % n;
            made(Make.turnedAbout(n), oneBack);
        }
    }

    private static void roundsAndRecordsOfOneThing() {
        made(row(0), 0);
    }

    /** Every ORDER of up to 6 THINGS both ways, and nothing else is changed by it. */
    private static void thereAndBack() {
        for (int n = 1; n <= 6; n++) {
            for (int[] a : Orders.all(n)) {
                made(a, Orders.madeRounds(a));
                HundredBoxes x = OrderTest.of(a);
                x.opens(n);
                x.toRecords();
                Check.due("promise 16: as many RECORDS as ROUNDS", x.number(1), Orders.number(a, 0));
                x.toRounds();
                Check.row("promise 15: the other way about", x, a);
                Check.due("promise 15: m stays", x.count(1), n);
                x.take(0);
                Check.row("promise 15: the shelf stays", x, Orders.atRest(n));
            }
        }
    }
}
