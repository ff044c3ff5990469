/** Promises 17 to 22: for each sentence that names a boundary case, a test of its own. */
public final class BoxesEdgesTest {
    private static final int BAD = HundredBoxes.BAD;
    private static final int NOT = HundredBoxes.NOT;
    private static final int TWICE = HundredBoxes.TWICE;

    private BoxesEdgesTest() {
    }

    public static void main(String[] args) {
        opensOneAtLeast();
        opensAllAtMost();
        opensTellsWhatItWas();
        firstAndLastPlayer();
        firstAndLastBox();
        boxTwice();
        boxInTheListsOfTwo();
        fullList();
        boxOnceMoreAfterForget();
        forgetOfAnEmptyList();
        forgetOfAFullList();
        forgetOfOneOnly();
        winsAtTheLastBox();
        winsAtRestWithOne();
        winsWithAllBoxes();
        firstAndLastWay();
        winsWithAnEmptyList();
        winsWithAShortList();
        winsWithTheFirstBoxesOnly();
        winsOwnThingOnly();
        winsOfMoreThanSeven();
        winsByRoundsLooksAtNoList();
        allWinWithOne();
        allWinWithAll();
        allWinWithAllButOne();
        allWinByRoundsOfEach();
        allWinByListsOfSevenAndEight();
        allWinWithEmptyLists();
        allWinWithOneEmptyList();
        allWinWithFullLists();
        allWinWithTheSameBox();
        allWinWithTheFirstBoxesOnly();
        allWinAgain();
        allWinLooksAtNoOrder();
        allWinOfOneThing();
        firstAndLastCount();
        countOfBoxes();
        Check.end("BoxesEdgesTest");
    }

    private static HundredBoxes withFullLists(int n) {
        HundredBoxes x = Make.of(n);
        for (int player = 0; player < n; player++) {
            for (int i = 0; i < n; i++) x.list(player, (player + i) % n);
        }
        return x;
    }

    private static void opensOneAtLeast() {
        for (int n = 1; n <= 18; n++) {
            HundredBoxes x = Make.of(n);
            int first = n == 1 ? 1 : 2;
            Check.due("promise 17: opens(0) of " + n, x.opens(0), BAD);
            Check.due("promise 17: opens(-1) of " + n, x.opens(-1), BAD);
            Check.due("promise 17: opens(0), m stays", x.count(1), first);
            Check.due("promise 17: opens(1) of " + n, x.opens(1), first);
            Check.due("promise 17: m after opens(1)", x.count(1), 1);
        }
    }

    private static void opensAllAtMost() {
        for (int n = 1; n <= 18; n++) {
            HundredBoxes x = Make.of(n);
            int first = n == 1 ? 1 : 2;
            Check.due("promise 17: opens(" + (n + 1) + ") of " + n, x.opens(n + 1), BAD);
            Check.due("promise 17: opens(" + (n + 1) + "), m stays", x.count(1), first);
            Check.due("promise 17: opens(" + n + ") of " + n, x.opens(n), first);
            Check.due("promise 17: m after opens(" + n + ")", x.count(1), n);
        }
    }

    private static void opensTellsWhatItWas() {
        HundredBoxes x = Make.of(18);
        Check.due("promise 17: 2 at first", x.opens(18), 2);
        Check.due("promise 17: then 18", x.opens(1), 18);
        Check.due("promise 17: then 1", x.opens(1), 1);
        Check.due("promise 17: the same again", x.opens(2), 1);
        x.opens(19);
        Check.due("promise 17: not the one refused", x.opens(5), 2);
        HundredBoxes one = Make.of(1);
        Check.due("promise 17: 1 at first with one THING", one.opens(1), 1);
    }

    private static void firstAndLastPlayer() {
        for (int n = 1; n <= 18; n++) {
            HundredBoxes x = Make.of(n);
            for (int wrong : new int[] {-1, n}) {
                Check.due("promise 18: list(" + wrong + ", 0) of " + n, x.list(wrong, 0), BAD);
                Check.due("promise 19: forget(" + wrong + ") of " + n, x.forget(wrong), BAD);
                Check.due("promise 20: wins(0, " + wrong + ") of " + n, x.wins(0, wrong), BAD);
                Check.due("promise 20: wins(1, " + wrong + ") of " + n, x.wins(1, wrong), BAD);
            }
            Check.due("promise 18: nothing listed", x.count(2), 0);
            Check.due("promise 18: list(0, 0)", x.list(0, 0), 1);
            Check.due("promise 18: list(" + (n - 1) + ", 0)", x.list(n - 1, 0), n == 1 ? TWICE : 1);
            Check.due("promise 20: wins(1, 0)", x.wins(1, 0), 1);
            Check.due("promise 20: wins(0, " + (n - 1) + ")", x.wins(0, n - 1), 1);
            Check.due("promise 19: forget(" + (n - 1) + ")", x.forget(n - 1), 1);
            Check.due("promise 19: forget(0)", x.forget(0), n == 1 ? 0 : 1);
        }
    }

    private static void firstAndLastBox() {
        for (int n = 2; n <= 18; n++) {
            HundredBoxes x = Make.of(n);
            Check.due("promise 18: list(1, -1)", x.list(1, -1), BAD);
            Check.due("promise 18: list(1, " + n + ") of " + n, x.list(1, n), BAD);
            Check.due("promise 18: nothing listed", x.count(2), 0);
            Check.due("promise 18: list(1, 0)", x.list(1, 0), 1);
            Check.due("promise 18: list(1, " + (n - 1) + ")", x.list(1, n - 1), 2);
        }
    }

    private static void boxTwice() {
        HundredBoxes x = Make.of(6);
        for (int box = 5; box >= 1; box--) {
            Check.due("promise 18: list(2, " + box + ")", x.list(2, box), 6 - box);
            for (int before = 5; before >= box; before--) {
                Check.due("promise 18: list(2, " + before + ") twice", x.list(2, before), TWICE);
            }
            Check.due("promise 18: refused, nothing listed", x.count(2), 6 - box);
        }
    }

    private static void boxInTheListsOfTwo() {
        HundredBoxes x = Make.of(3);
        for (int player = 0; player < 3; player++) {
            Check.due("promise 18: list(" + player + ", 1)", x.list(player, 1), 1);
        }
        Check.due("promise 18: list(1, 1) twice", x.list(1, 1), TWICE);
    }

    private static void fullList() {
        for (int n = 1; n <= 18; n++) {
            HundredBoxes x = Make.of(n);
            for (int box = 0; box < n; box++) Check.due("promise 18: list(0, " + box + ")", x.list(0, box), box + 1);
            for (int box = 0; box < n; box++) Check.due("promise 18: a full list of " + n, x.list(0, box), TWICE);
            Check.due("promise 18: a full list, no such BOX", x.list(0, n), BAD);
            Check.due("promise 22: a full list of " + n, x.count(2), n);
        }
    }

    private static void boxOnceMoreAfterForget() {
        HundredBoxes x = Make.of(4);
        x.list(3, 2);
        x.list(3, 1);
        x.forget(3);
        Check.due("promise 19: list(3, 1) after forget", x.list(3, 1), 1);
        Check.due("promise 19: list(3, 2) after forget", x.list(3, 2), 2);
        Check.due("promise 19: list(3, 2) twice", x.list(3, 2), TWICE);
    }

    private static void forgetOfAnEmptyList() {
        HundredBoxes x = Make.of(18);
        for (int player = 0; player < 18; player++) Check.due("promise 19: forget(" + player + ")", x.forget(player), 0);
        x.list(4, 4);
        Check.due("promise 19: forget(4)", x.forget(4), 1);
        Check.due("promise 19: forget(4) again", x.forget(4), 0);
    }

    private static void forgetOfAFullList() {
        HundredBoxes x = withFullLists(18);
        for (int player = 17; player >= 0; player--) {
            Check.due("promise 19: forget(" + player + ") of a full one", x.forget(player), 18);
            Check.due("promise 19: the others stay", x.count(2), 18 * player);
        }
    }

    private static void forgetOfOneOnly() {
        HundredBoxes x = withFullLists(3);
        x.opens(3);
        x.forget(1);
        Check.due("promise 19: wins(1, 0)", x.wins(1, 0), 1);
        Check.due("promise 19: wins(1, 1)", x.wins(1, 1), 0);
        Check.due("promise 19: wins(1, 2)", x.wins(1, 2), 1);
        Check.due("promise 19: m stays", x.count(1), 3);
    }

    /** In a ROUND of so many THINGS the last BOX opened has the own THING. */
    private static void winsAtTheLastBox() {
        for (int n = 2; n <= 18; n++) {
            HundredBoxes x = Make.of(n);
            x.row(1, 1, 0);
            x.toRounds();
            Check.due("promise 20: one ROUND of " + n, x.number(4), n);
            for (int player = 0; player < n; player++) {
                x.opens(n - 1);
                Check.due("promise 20: wins(0, " + player + ") with " + (n - 1), x.wins(0, player), 0);
                x.opens(n);
                Check.due("promise 20: wins(0, " + player + ") with " + n, x.wins(0, player), 1);
            }
        }
    }

    private static void winsAtRestWithOne() {
        for (int n = 1; n <= 18; n++) {
            HundredBoxes x = Make.of(n);
            x.opens(1);
            for (int player = 0; player < n; player++) {
                Check.due("promise 20: wins(0, " + player + ") at rest", x.wins(0, player), 1);
            }
        }
    }

    private static void winsWithAllBoxes() {
        for (int n = 1; n <= 18; n++) {
            HundredBoxes x = withFullLists(n);
            x.opens(n);
            x.row(-1, 0, Counts.factorial(n) / 3);
            for (int player = 0; player < n; player++) {
                Check.due("promise 20: wins(0, " + player + ") with all", x.wins(0, player), 1);
                Check.due("promise 20: wins(1, " + player + ") with all", x.wins(1, player), 1);
            }
        }
    }

    private static void firstAndLastWay() {
        for (int n : new int[] {1, 4, 18}) {
            HundredBoxes x = Make.of(n);
            for (int wrong : new int[] {-1, 2, Integer.MIN_VALUE, Integer.MAX_VALUE}) {
                Check.due("promise 20: wins(" + wrong + ", 0) of " + n, x.wins(wrong, 0), BAD);
                Check.due("promise 20: wins(" + wrong + ", -1) of " + n, x.wins(wrong, -1), BAD);
                Check.due("promise 21: allWin(" + wrong + ") of " + n, x.allWin(wrong), BAD);
            }
            Check.due("promise 20: wins(0, 0) of " + n, x.wins(0, 0), 1);
            Check.due("promise 20: wins(1, 0) of " + n, x.wins(1, 0), 0);
        }
    }

    private static void winsWithAnEmptyList() {
        for (int n = 1; n <= 18; n++) {
            HundredBoxes x = Make.of(n);
            x.opens(n);
            for (int player = 0; player < n; player++) {
                Check.due("promise 20: wins(1, " + player + "), empty", x.wins(1, player), 0);
            }
        }
    }

    /** The one BOX of a list is opened, and no other, though m is greater. */
    private static void winsWithAShortList() {
        HundredBoxes x = OrderTest.of(1, 0, 2);
        x.opens(3);
        x.list(0, 0);
        x.list(1, 0);
        Check.due("promise 20: BOX 0 has not 0", x.wins(1, 0), 0);
        Check.due("promise 20: BOX 0 has 1", x.wins(1, 1), 1);
        x.list(0, 2);
        Check.due("promise 20: nor has BOX 2", x.wins(1, 0), 0);
        x.list(0, 1);
        Check.due("promise 20: BOX 1 has 0", x.wins(1, 0), 1);
    }

    private static void winsWithTheFirstBoxesOnly() {
        for (int n = 2; n <= 18; n++) {
            HundredBoxes x = Make.of(n);
            for (int i = 0; i < n; i++) x.list(0, n - 1 - i);
            x.opens(n - 1);
            Check.due("promise 20: BOX 0 is the last of " + n, x.wins(1, 0), 0);
            x.opens(n);
            Check.due("promise 20: BOX 0 is opened of " + n, x.wins(1, 0), 1);
            x.opens(1);
            x.swap(0, n - 1);
            Check.due("promise 20: the first BOX has 0", x.wins(1, 0), 1);
        }
    }

    /** BOX 2 has THING 0: that is won by 0, not by 2. */
    private static void winsOwnThingOnly() {
        HundredBoxes x = OrderTest.of(1, 2, 0);
        x.opens(1);
        x.list(0, 2);
        x.list(2, 2);
        x.list(1, 1);
        Check.due("promise 20: wins(1, 0)", x.wins(1, 0), 1);
        Check.due("promise 20: wins(1, 1)", x.wins(1, 1), 0);
        Check.due("promise 20: wins(1, 2)", x.wins(1, 2), 0);
    }

    private static void winsOfMoreThanSeven() {
        for (int n = 7; n <= 18; n++) {
            HundredBoxes x = Make.of(n);
            x.list(n - 1, 0);
            Check.due("promise 20: wins(1, " + (n - 1) + ") of " + n, x.wins(1, n - 1), 0);
            x.swap(0, n - 1);
            Check.due("promise 20: wins(1, " + (n - 1) + ") of " + n, x.wins(1, n - 1), 1);
        }
    }

    private static void winsByRoundsLooksAtNoList() {
        HundredBoxes x = OrderTest.of(1, 2, 0, 3);
        x.list(0, 2);
        x.list(3, 0);
        Check.due("promise 20: wins(0, 0), listed", x.wins(0, 0), 0);
        Check.due("promise 20: wins(0, 3), not listed", x.wins(0, 3), 1);
        Check.due("promise 20: wins(1, 0), listed", x.wins(1, 0), 1);
        Check.due("promise 20: wins(1, 3), not listed", x.wins(1, 3), 0);
    }

    private static void allWinWithOne() {
        for (int n = 1; n <= 18; n++) {
            HundredBoxes x = Make.of(n);
            x.opens(1);
            Check.due("promise 21: allWin(0) of " + n + " with 1", x.allWin(0), 1);
        }
    }

    private static void allWinWithAll() {
        for (int n = 1; n <= 18; n++) {
            HundredBoxes x = Make.of(n);
            x.opens(n);
            Check.due("promise 21: allWin(0) of " + n + " with all", x.allWin(0), Counts.factorial(n));
        }
    }

    private static void allWinWithAllButOne() {
        for (int n = 2; n <= 18; n++) {
            HundredBoxes x = Make.of(n);
            x.opens(n - 1);
            long want = Counts.factorial(n) - Counts.factorial(n - 1);
            Check.due("promise 21: allWin(0) of " + n + " with all but one", x.allWin(0), want);
        }
    }

    private static void allWinByRoundsOfEach() {
        for (int n = 1; n <= 18; n++) {
            HundredBoxes x = Make.of(n);
            for (int m = 1; m <= n; m++) {
                x.opens(m);
                Check.due("promise 21: allWin(0) of " + n + " with " + m, x.allWin(0), Counts.withRoundsUpTo(n, m));
            }
        }
    }

    private static void allWinByListsOfSevenAndEight() {
        for (int n = 1; n <= 18; n++) {
            HundredBoxes x = Make.of(n);
            for (int player = 0; player < n; player++) x.list(player, player);
            Check.due("promise 21: allWin(1) of " + n, x.allWin(1), n <= 7 ? 1 : NOT);
            Check.due("promise 21: allWin(2) of " + n, x.allWin(2), BAD);
            Check.due("promise 21: allWin(-1) of " + n, x.allWin(-1), BAD);
        }
    }

    private static void allWinWithEmptyLists() {
        for (int n = 1; n <= 7; n++) {
            HundredBoxes x = Make.of(n);
            x.opens(n);
            Check.due("promise 21: allWin(1) of " + n + ", empty", x.allWin(1), 0);
        }
    }

    private static void allWinWithOneEmptyList() {
        for (int n = 2; n <= 7; n++) {
            for (int player = 0; player < n; player++) {
                HundredBoxes x = withFullLists(n);
                x.opens(n);
                x.forget(player);
                Check.due("promise 21: allWin(1) of " + n + ", one empty", x.allWin(1), 0);
            }
        }
    }

    private static void allWinWithFullLists() {
        for (int n = 1; n <= 7; n++) {
            HundredBoxes x = withFullLists(n);
            x.opens(n);
            Check.due("promise 21: allWin(1) of " + n + ", full", x.allWin(1), Counts.factorial(n));
        }
    }

    /** Two who open the same BOX alone can't both win. */
    private static void allWinWithTheSameBox() {
        for (int n = 2; n <= 7; n++) {
            HundredBoxes x = Make.of(n);
            for (int player = 0; player < n; player++) x.list(player, Math.min(player, n - 2));
            Check.due("promise 21: allWin(1) of " + n + ", the same BOX", x.allWin(1), 0);
            x.list(n - 1, n - 1);
            Check.due("promise 21: allWin(1) of " + n + ", one BOX more", x.allWin(1), 1);
        }
    }

    private static void allWinWithTheFirstBoxesOnly() {
        HundredBoxes x = withFullLists(7);
        x.opens(1);
        Check.due("promise 21: allWin(1) of 7 with 1", x.allWin(1), 1);
        x.opens(2);
        Check.due("promise 21: allWin(1) of 7 with 2", x.allWin(1), 2);
        x.opens(6);
        // None may be one ahead of its PLAYER: as many as have none at rest.
        Check.due("promise 21: allWin(1) of 7 with 6", x.allWin(1), Counts.many(7, 3, 0));
    }

    private static void allWinAgain() {
        HundredBoxes x = withFullLists(7);
        x.opens(7);
        for (int round = 0; round < 3; round++) Check.due("promise 21: allWin(1) again", x.allWin(1), 5040);
        x.things(2);
        x.list(0, 1);
        x.list(1, 0);
        Check.due("promise 21: allWin(1) of 2 after 7", x.allWin(1), 1);
    }

    private static void allWinLooksAtNoOrder() {
        HundredBoxes x = withFullLists(5);
        long byLists = x.allWin(1);
        long byRounds = x.allWin(0);
        x.row(-1, 0, 77);
        Check.due("promise 21: allWin(1), another ORDER", x.allWin(1), byLists);
        Check.due("promise 21: allWin(0), another ORDER", x.allWin(0), byRounds);
        Check.due("promise 21: THE ORDER stays", x.place(-1), 77);
        Check.due("promise 21: m stays", x.count(1), 2);
        Check.due("promise 21: the lists stay", x.count(2), 25);
    }

    private static void allWinOfOneThing() {
        HundredBoxes x = Make.of(1);
        Check.due("promise 21: allWin(0) of 1", x.allWin(0), 1);
        Check.due("promise 21: allWin(1) of 1, empty", x.allWin(1), 0);
        x.list(0, 0);
        Check.due("promise 21: allWin(1) of 1", x.allWin(1), 1);
    }

    private static void firstAndLastCount() {
        HundredBoxes x = Make.of(9);
        Check.due("promise 22: count(-1)", x.count(-1), BAD);
        Check.due("promise 22: count(0)", x.count(0), 9);
        Check.due("promise 22: count(1)", x.count(1), 2);
        Check.due("promise 22: count(2)", x.count(2), 0);
        Check.due("promise 22: count(3)", x.count(3), BAD);
        Check.due("promise 22: count of one THING", Make.of(1).count(1), 1);
    }

    private static void countOfBoxes() {
        HundredBoxes x = withFullLists(18);
        Check.due("promise 22: all lists full", x.count(2), 324);
        x.list(0, 0);
        Check.due("promise 22: one twice", x.count(2), 324);
        x.forget(17);
        Check.due("promise 22: one empty", x.count(2), 306);
        x.things(18);
        Check.due("promise 22: all empty", x.count(2), 0);
    }
}
