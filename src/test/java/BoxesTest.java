/** Promises 17 to 22: PLAYERS who open BOXES by ROUNDS and by lists. */
public final class BoxesTest {
    private static final int[] FAR = {-1, 18, Integer.MIN_VALUE, Integer.MAX_VALUE};

    private BoxesTest() {
    }

    public static void main(String[] args) {
        opens();
        list();
        fullLists();
        forget();
        winsByRounds();
        winsByLists();
        winsRefused();
        allWinByRounds();
        allWinByLists();
        allWinRefused();
        count();
        Check.end("BoxesTest");
    }

    private static void opens() {
        HundredBoxes x = Make.of(18);
        Check.due("promise 17: opens(18)", x.opens(18), 2);
        Check.due("promise 17: opens(1)", x.opens(1), 18);
        Check.due("promise 17: opens(1) again", x.opens(1), 1);
        Check.due("promise 17: opens(7)", x.opens(7), 1);
        for (int m : new int[] {0, -1, 19, Integer.MIN_VALUE, Integer.MAX_VALUE}) {
            Check.due("promise 17: opens(" + m + ")", x.opens(m), HundredBoxes.BAD);
            Check.due("promise 17: refused", x.count(1), 7);
        }
        HundredBoxes one = Make.of(1);
        Check.due("promise 17: opens(2) of 1", one.opens(2), HundredBoxes.BAD);
        Check.due("promise 17: opens(1) of 1", one.opens(1), 1);
    }

    private static void list() {
        HundredBoxes x = Make.of(5);
        Check.due("promise 18: list(2, 4)", x.list(2, 4), 1);
        Check.due("promise 18: list(2, 0)", x.list(2, 0), 2);
        Check.due("promise 18: list(3, 4)", x.list(3, 4), 1);
        Check.due("promise 18: list(2, 4) again", x.list(2, 4), HundredBoxes.TWICE);
        Check.due("promise 18: list(2, 0) again", x.list(2, 0), HundredBoxes.TWICE);
        for (int wrong : new int[] {-1, 5, 17, 18, Integer.MIN_VALUE, Integer.MAX_VALUE}) {
            Check.due("promise 18: list(" + wrong + ", 4)", x.list(wrong, 4), HundredBoxes.BAD);
            Check.due("promise 18: list(2, " + wrong + ")", x.list(2, wrong), HundredBoxes.BAD);
        }
        Check.due("promise 18: refused", x.count(2), 3);
        Check.due("promise 18: list(2, 1)", x.list(2, 1), 3);
    }

    private static void fullLists() {
        HundredBoxes x = Make.of(18);
        for (int player = 0; player < 18; player++) {
            for (int i = 0; i < 18; i++) {
                Check.due("promise 18: a list grows", x.list(player, (player + 5 * i) % 18), i + 1);
            }
            Check.due("promise 18: a full list", x.list(player, 17 - player), HundredBoxes.TWICE);
        }
        Check.due("promise 22: all lists full", x.count(2), 18 * 18);
    }

    private static void forget() {
        HundredBoxes x = Make.of(5);
        x.list(2, 4);
        x.list(2, 0);
        x.list(3, 4);
        Check.due("promise 19: forget(1)", x.forget(1), 0);
        Check.due("promise 19: forget(2)", x.forget(2), 2);
        Check.due("promise 19: forget(2) again", x.forget(2), 0);
        Check.due("promise 19: the others stay", x.count(2), 1);
        Check.due("promise 19: anew", x.list(2, 4), 1);
        Check.due("promise 19: forget(5)", x.forget(5), HundredBoxes.BAD);
        for (int wrong : FAR) Check.due("promise 19: forget(" + wrong + ")", x.forget(wrong), HundredBoxes.BAD);
        Check.due("promise 19: refused", x.count(2), 2);
    }

    private static void winsByRounds() {
        HundredBoxes x = OrderTest.of(1, 2, 0, 4, 3, 5);
        int[] lengths = {3, 3, 3, 2, 2, 1};
        for (int m = 1; m <= 6; m++) {
            x.opens(m);
            for (int player = 0; player < 6; player++) {
                Check.due("promise 20: wins(0, " + player + ") with " + m, x.wins(0, player), lengths[player] <= m ? 1 : 0);
            }
        }
    }

    private static void winsByLists() {
        HundredBoxes x = OrderTest.of(3, 0, 1, 2);
        x.list(0, 3);
        x.list(0, 2);
        x.list(0, 1);
        x.list(1, 2);
        int[][] want = {{0, 1, 0, 0}, {0, 1, 0, 0}, {1, 1, 0, 0}, {1, 1, 0, 0}};
        for (int m = 1; m <= 4; m++) {
            x.opens(m);
            for (int player = 0; player < 4; player++) {
                Check.due("promise 20: wins(1, " + player + ") with " + m, x.wins(1, player), want[m - 1][player]);
            }
        }
        x.forget(1);
        Check.due("promise 20: an empty list", x.wins(1, 1), 0);
    }

    private static void winsRefused() {
        HundredBoxes x = Make.of(18);
        Check.due("promise 20: wins(2, 0)", x.wins(2, 0), HundredBoxes.BAD);
        for (int wrong : FAR) {
            Check.due("promise 20: wins(" + wrong + ", 0)", x.wins(wrong, 0), HundredBoxes.BAD);
            Check.due("promise 20: wins(0, " + wrong + ")", x.wins(0, wrong), HundredBoxes.BAD);
            Check.due("promise 20: wins(1, " + wrong + ")", x.wins(1, wrong), HundredBoxes.BAD);
        }
        Check.due("promise 20: lists of more than 7", x.wins(1, 17), 0);
        x.list(17, 17);
        Check.due("promise 20: lists of more than 7", x.wins(1, 17), 1);
    }

    /** All win with just those ORDERS that have no longer ROUND than m. */
    private static void allWinByRounds() {
        for (int n = 1; n <= 18; n++) {
            HundredBoxes x = Make.of(n);
            x.swap(0, n - 1);
            long sum = 0;
            for (int m = 1; m <= n; m++) {
                x.opens(m);
                sum += x.many(4, m);
                Check.due("promise 21: allWin(0) of " + n + " with " + m, x.allWin(0), sum);
            }
            Check.due("promise 21: the order stays", x.at(0), n - 1);
        }
        HundredBoxes x = Make.of(18);
        x.opens(17);
        Check.due("promise 21: all but the ORDERS of one ROUND", x.allWin(0), 6402373705728000L - 355687428096000L);
    }

    private static void allWinByLists() {
        for (int n = 1; n <= 7; n++) {
            HundredBoxes x = Make.of(n);
            Check.due("promise 21: empty lists of " + n, x.allWin(1), 0);
            for (int player = 0; player < n; player++) {
                for (int i = 0; i < n; i++) x.list(player, (player + i) % n);
            }
            x.opens(1);
            Check.due("promise 21: one BOX each of " + n, x.allWin(1), 1);
            x.opens(n);
            Check.due("promise 21: all BOXES of " + n, x.allWin(1), Orders.all(n).size());
            Check.due("promise 21: all BOXES again", x.allWin(1), Orders.all(n).size());
            x.forget(n - 1);
            Check.due("promise 21: one without BOXES of " + n, x.allWin(1), 0);
        }
    }

    private static void allWinRefused() {
        for (int n = 1; n <= 18; n++) {
            HundredBoxes x = Make.of(n);
            Check.due("promise 21: allWin(1) of " + n, x.allWin(1), n > 7 ? HundredBoxes.NOT : 0);
            for (int way : new int[] {-1, 2, Integer.MIN_VALUE, Integer.MAX_VALUE}) {
                Check.due("promise 21: allWin(" + way + ") of " + n, x.allWin(way), HundredBoxes.BAD);
            }
        }
    }

    private static void count() {
        HundredBoxes x = Make.of(9);
        x.opens(6);
        x.list(8, 8);
        x.list(0, 3);
        x.list(0, 8);
        Check.due("promise 22: count(0)", x.count(0), 9);
        Check.due("promise 22: count(1)", x.count(1), 6);
        Check.due("promise 22: count(2)", x.count(2), 3);
        for (int what : new int[] {-1, 3, Integer.MIN_VALUE, Integer.MAX_VALUE}) {
            Check.due("promise 22: count(" + what + ")", x.count(what), HundredBoxes.BAD);
        }
    }
}
