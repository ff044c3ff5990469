import java.util.Random;

/** Promises 1 to 10: a new object, things, and the calls on THE ORDER and THE SHELF. */
public final class OrderTest {
    private static final Random RANDOM = new Random(10);

    private OrderTest() {
    }

    public static void main(String[] args) {
        newObject();
        things();
        thingsRefused();
        orderOfEachSize();
        orderRefused();
        orderRefusedByFiguresAbove();
        at();
        swap();
        layAndTake();
        then();
        back();
        numbersOfDrawnOrders();
        numbersAtTheEdges();
        Check.end("OrderTest");
    }

    static HundredBoxes of(int... a) {
        HundredBoxes x = new HundredBoxes();
        x.things(a.length);
        long[] told = Orders.figures(a);
        Check.due("order(" + told[0] + ", " + told[1] + ")", x.order(told[0], told[1]), 1);
        return x;
    }

    private static void newObject() {
        HundredBoxes x = new HundredBoxes();
        Check.row("promise 1", x, 0, 1, 2, 3);
        Check.due("promise 1: m", x.count(1), 2);
        Check.due("promise 1: lists", x.count(2), 0);
        for (int place = 0; place < 4; place++) {
            x.swap(0, 1);
            Check.due("promise 1: take(" + place + ")", x.take(place), 1);
            Check.row("promise 1: place " + place, x, 0, 1, 2, 3);
        }
    }

    private static void things() {
        for (int n = 1; n <= 18; n++) {
            HundredBoxes x = new HundredBoxes();
            x.things(n == 18 ? 17 : 18);
            x.row(-1, 0, 12345);
            for (int place = 0; place < 4; place++) x.lay(place);
            x.opens(5);
            x.list(0, 0);
            x.list(16, 3);
            Check.due("promise 2: things(" + n + ")", x.things(n), 1);
            Check.row("promise 2: things(" + n + ")", x, Orders.atRest(n));
            Check.due("promise 2: m of " + n, x.count(1), n == 1 ? 1 : 2);
            Check.due("promise 2: lists of " + n, x.count(2), 0);
            for (int place = 0; place < 4; place++) {
                x.swap(0, n - 1);
                x.take(place);
                Check.row("promise 2: place " + place, x, Orders.atRest(n));
            }
            x.things(18);
            Check.due("promise 2: lists of 18 after " + n, x.count(2), 0);
            Check.due("promise 2: forget(16)", x.forget(16), 0);
        }
        HundredBoxes x = of(1, 0, 3, 2);
        x.things(4);
        Check.row("promise 2: as many as before", x, 0, 1, 2, 3);
    }

    private static void thingsRefused() {
        HundredBoxes x = of(2, 0, 1);
        x.opens(3);
        x.list(1, 2);
        for (int n : new int[] {0, -1, 19, Integer.MIN_VALUE, Integer.MAX_VALUE}) {
            Check.due("promise 2: things(" + n + ")", x.things(n), HundredBoxes.BAD);
            Check.row("promise 2: refused", x, 2, 0, 1);
            Check.due("promise 2: refused, m", x.count(1), 3);
            Check.due("promise 2: refused, lists", x.count(2), 1);
        }
    }

    private static void orderOfEachSize() {
        for (int n = 1; n <= 18; n++) {
            for (int round = 0; round < 20; round++) {
                int[] a = Orders.shuffled(n, RANDOM);
                Check.row("promise 3", of(a), a);
            }
        }
    }

    private static void orderRefused() {
        HundredBoxes x = of(3, 1, 0, 2);
        long[][] wrong = {
            {0, 0}, {-1, 0}, {0, -1}, {Long.MIN_VALUE, 0}, {Long.MAX_VALUE, 0}, {0, Long.MIN_VALUE},
            Orders.figures(new int[] {0, 1, 2, 4}), Orders.figures(new int[] {0, 1, 2, 17}),
            Orders.figures(new int[] {0, 1, 1, 3}), Orders.figures(new int[] {2, 1, 0}),
            {-Orders.figures(new int[] {0, 1, 2, 3})[0], 0},
        };
        for (long[] told : wrong) {
            Check.due("promise 3: order(" + told[0] + ", " + told[1] + ")", x.order(told[0], told[1]), HundredBoxes.BAD);
            Check.row("promise 3: refused", x, 3, 1, 0, 2);
        }
    }

    private static void orderRefusedByFiguresAbove() {
        for (int n = 1; n <= 18; n++) {
            HundredBoxes x = new HundredBoxes();
            x.things(n);
            long[] told = Orders.figures(Orders.shuffled(n, RANDOM));
            long aboveTold = power(Math.min(n, 9));
            long aboveMore = power(Math.max(n - 9, 0));
            String of = " of " + n;
            Check.due("promise 3: told above" + of, x.order(told[0] + aboveTold, told[1]), -2);
            Check.due("promise 3: more above" + of, x.order(told[0], told[1] + aboveMore), -2);
            Check.due("promise 3: told far above" + of, x.order(told[0] + power(14), told[1]), -2);
            Check.due("promise 3: more far above" + of, x.order(told[0], told[1] + power(14)), -2);
            Check.due("promise 3: told below 0" + of, x.order(-aboveTold, told[1]), -2);
            Check.due("promise 3: more below 0" + of, x.order(told[0], -aboveMore), -2);
            Check.row("promise 3: refused" + of, x, Orders.atRest(n));
            Check.due("promise 3: nothing above" + of, x.order(told[0], told[1]), 1);
        }
    }

    private static long power(int exponent) {
        long power = 1;
        for (int i = 0; i < exponent; i++) power *= 18;
        return power;
    }

    private static void at() {
        HundredBoxes x = of(4, 2, 0, 1, 3);
        int[] a = {4, 2, 0, 1, 3};
        for (int i = 0; i < 5; i++) Check.due("promise 4: at(" + i + ")", x.at(i), a[i]);
        for (int i : new int[] {-1, 5, 17, 18, Integer.MIN_VALUE, Integer.MAX_VALUE}) {
            Check.due("promise 4: at(" + i + ")", x.at(i), HundredBoxes.BAD);
        }
    }

    private static void swap() {
        HundredBoxes x = of(4, 2, 0, 1, 3);
        Check.due("promise 5: swap(0, 4)", x.swap(0, 4), 1);
        Check.row("promise 5", x, 3, 2, 0, 1, 4);
        Check.due("promise 5: swap(2, 1)", x.swap(2, 1), 1);
        Check.row("promise 5", x, 3, 0, 2, 1, 4);
        Check.due("promise 5: swap(3, 3)", x.swap(3, 3), 1);
        Check.row("promise 5", x, 3, 0, 2, 1, 4);
        for (int i : new int[] {-1, 5, 18, Integer.MIN_VALUE, Integer.MAX_VALUE}) {
            Check.due("promise 5: swap(" + i + ", 0)", x.swap(i, 0), HundredBoxes.BAD);
            Check.due("promise 5: swap(0, " + i + ")", x.swap(0, i), HundredBoxes.BAD);
            Check.due("promise 5: swap(" + i + ", " + i + ")", x.swap(i, i), HundredBoxes.BAD);
        }
        Check.row("promise 5: refused", x, 3, 0, 2, 1, 4);
    }

    private static void layAndTake() {
        HundredBoxes x = new HundredBoxes();
        int[][] rows = {{1, 0, 2, 3}, {1, 2, 0, 3}, {1, 2, 3, 0}, {0, 2, 3, 1}};
        for (int place = 0; place < 4; place++) {
            x.swap(place, (place + 1) % 4);
            Check.row("promise 6", x, rows[place]);
            Check.due("promise 6: lay(" + place + ")", x.lay(place), 1);
            x.swap(0, 1);
            x.swap(0, 1);
        }
        for (int place : new int[] {-1, 4, Integer.MIN_VALUE, Integer.MAX_VALUE}) {
            Check.due("promise 6: lay(" + place + ")", x.lay(place), HundredBoxes.BAD);
            Check.due("promise 7: take(" + place + ")", x.take(place), HundredBoxes.BAD);
            Check.row("promise 7: refused", x, rows[3]);
        }
        for (int place : new int[] {2, 0, 3, 1, 1}) {
            Check.due("promise 7: take(" + place + ")", x.take(place), 1);
            Check.row("promise 7: take(" + place + ")", x, rows[place]);
            x.swap(1, 3);
        }
        x.take(1);
        Check.row("promise 7: a place keeps its own", x, rows[1]);
    }

    private static void then() {
        HundredBoxes x = of(1, 2, 0, 4, 3);
        x.lay(2);
        x.order(Orders.figures(new int[] {0, 3, 4, 1, 2})[0], 0);
        Check.due("promise 8: then(2)", x.then(2), 1);
        Check.row("promise 8: i to b(a(i))", x, 1, 4, 3, 2, 0);
        Check.due("promise 8: then(0)", x.then(0), 1);
        Check.row("promise 8: a place at first", x, 1, 4, 3, 2, 0);
        x.take(2);
        Check.row("promise 8: the place stays", x, 1, 2, 0, 4, 3);
        x.then(2);
        Check.row("promise 8: by itself", x, 2, 0, 1, 3, 4);
        for (int place : new int[] {-1, 4, Integer.MIN_VALUE, Integer.MAX_VALUE}) {
            Check.due("promise 8: then(" + place + ")", x.then(place), HundredBoxes.BAD);
        }
        Check.row("promise 8: refused", x, 2, 0, 1, 3, 4);
    }

    private static void back() {
        HundredBoxes x = of(2, 0, 4, 1, 3);
        Check.due("promise 9: back()", x.back(), 1);
        Check.row("promise 9", x, 1, 3, 0, 4, 2);
        for (int n = 1; n <= 18; n++) {
            int[] a = Orders.shuffled(n, RANDOM);
            HundredBoxes y = of(a);
            y.lay(0);
            y.back();
            for (int i = 0; i < n; i++) Check.due("promise 9: at(" + a[i] + ")", y.at(a[i]), i);
            y.then(0);
            Check.row("promise 9: there and back", y, Orders.atRest(n));
        }
    }

    private static void numbersOfDrawnOrders() {
        for (int n = 1; n <= 18; n++) {
            for (int round = 0; round < 100; round++) {
                int[] a = Orders.shuffled(n, RANDOM);
                HundredBoxes x = of(a);
                for (int k = 0; k < 8; k++) {
                    Check.due("promise 10: number(" + k + ")", x.number(k), Orders.number(a, k));
                }
                Check.row("promise 10: the order stays", x, a);
            }
        }
    }

    private static void numbersAtTheEdges() {
        HundredBoxes x = new HundredBoxes();
        x.things(18);
        for (int k : new int[] {-1, 8, Integer.MIN_VALUE, Integer.MAX_VALUE}) {
            Check.due("promise 10: number(" + k + ")", x.number(k), HundredBoxes.BAD);
        }
        numbers(x, 18, 18, 17, 18, 1, 0, 18, 1);
        numbers(of(17, 16, 15, 14, 13, 12, 11, 10, 9, 8, 7, 6, 5, 4, 3, 2, 1, 0), 9, 1, 0, 0, 2, 153, 1, 2);
        numbers(of(1, 2, 3, 4, 5, 6, 7, 8, 9, 10, 11, 12, 13, 14, 15, 16, 17, 0), 1, 17, 16, 0, 18, 17, 17, 18);
        // ROUNDS of 5, 6 and 7: no ORDER of 18 THINGS has more TURNS.
        numbers(of(1, 2, 3, 4, 0, 6, 7, 8, 9, 10, 5, 12, 13, 14, 15, 16, 17, 11), 3, 15, 14, 0, 7, 15, 15, 210);
        numbers(of(0), 1, 1, 0, 1, 1, 0, 1, 1);
    }

    private static void numbers(HundredBoxes x, int... want) {
        for (int k = 0; k < 8; k++) Check.due("promise 10: number(" + k + ")", x.number(k), want[k]);
    }
}
