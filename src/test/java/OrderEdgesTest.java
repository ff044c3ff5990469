/** Promises 1 to 10: for each sentence that names a boundary case, a test of its own. */
public final class OrderEdgesTest {
    private static final int BAD = HundredBoxes.BAD;

    private OrderEdgesTest() {
    }

    public static void main(String[] args) {
        newObjectHasFourThings();
        newObjectOpensTwo();
        newObjectHasEmptyLists();
        newObjectHasFourPlacesAtRest();
        fewestAndMostThings();
        thingsPutTheOrderAtRest();
        thingsPutEachPlaceAtRest();
        thingsSetHowManyAreOpened();
        thingsEmptyTheLists();
        figuresFromTheLowest();
        orderOfOneThing();
        ninthFigureIsTheLastOfTold();
        tenthThingIsTheFirstOfMore();
        greatestFigures();
        figureThatIsNoThing();
        figureTwice();
        figuresAboveTold();
        figuresAboveMore();
        figuresBelowNought();
        orderChangesNothingElse();
        firstAndLastPlaceOfTheRow();
        noThingOfABiggerRow();
        swapOfTheEnds();
        swapOfOneWithItself();
        firstAndLastPlaceOfTheShelf();
        layIsACopy();
        takeIsACopy();
        takeOfAPlaceNeverLaidOn();
        thenGoesByAFirst();
        thenByItself();
        thenByAPlaceAtRest();
        backOfRestAndOfPairs();
        backOfOneRound();
        numbersOfOneThing();
        numbersAtRest();
        numbersOfTheRowTurnedAbout();
        numbersOfOneRound();
        roundsOfOneCount();
        theFirstIsARecord();
        theLastIsNoRise();
        turnsAreOneOrMore();
        mostTurns();
        twoObjectsShareNothing();
        the512thCall();
        Check.end("OrderEdgesTest");
    }

    private static void newObjectHasFourThings() {
        HundredBoxes x = new HundredBoxes();
        Check.due("promise 1: count(0)", x.count(0), 4);
        Check.row("promise 1: 0, 1, ..", x, 0, 1, 2, 3);
        Check.due("promise 1: at(4)", x.at(4), BAD);
        Check.due("promise 1: many(5, 6)", x.many(5, 6), 1);
    }

    private static void newObjectOpensTwo() {
        HundredBoxes x = new HundredBoxes();
        Check.due("promise 1: count(1)", x.count(1), 2);
        Check.due("promise 1: opens(3)", x.opens(3), 2);
    }

    private static void newObjectHasEmptyLists() {
        HundredBoxes x = new HundredBoxes();
        Check.due("promise 1: count(2)", x.count(2), 0);
        for (int player = 0; player < 4; player++) {
            Check.due("promise 1: wins(1, " + player + ")", x.wins(1, player), 0);
            Check.due("promise 1: forget(" + player + ")", x.forget(player), 0);
        }
    }

    private static void newObjectHasFourPlacesAtRest() {
        for (int place = 0; place < 4; place++) {
            HundredBoxes x = new HundredBoxes();
            Make.tell(x, 3, 2, 1, 0);
            Check.due("promise 1: take(" + place + ")", x.take(place), 1);
            Check.row("promise 1: take(" + place + ")", x, 0, 1, 2, 3);
        }
    }

    private static void fewestAndMostThings() {
        HundredBoxes x = new HundredBoxes();
        Check.due("promise 2: things(1)", x.things(1), 1);
        Check.due("promise 2: count(0)", x.count(0), 1);
        Check.due("promise 2: things(0)", x.things(0), BAD);
        Check.due("promise 2: count(0) after things(0)", x.count(0), 1);
        Check.due("promise 2: things(18)", x.things(18), 1);
        Check.due("promise 2: count(0)", x.count(0), 18);
        Check.due("promise 2: things(19)", x.things(19), BAD);
        Check.due("promise 2: count(0) after things(19)", x.count(0), 18);
    }

    private static void thingsPutTheOrderAtRest() {
        for (int before = 1; before <= 18; before++) {
            for (int n = 1; n <= 18; n++) {
                HundredBoxes x = Make.of(before);
                Make.tell(x, Make.turnedAbout(before));
                x.things(n);
                Check.row("promise 2: things(" + n + ") after " + before, x, Orders.atRest(n));
            }
        }
    }

    private static void thingsPutEachPlaceAtRest() {
        for (int before : new int[] {2, 5, 9, 18}) {
            for (int n : new int[] {1, 2, 5, 9, 18}) {
                HundredBoxes x = Make.of(before);
                Make.tell(x, Make.turnedAbout(before));
                for (int place = 0; place < 4; place++) x.lay(place);
                x.things(n);
                for (int place = 0; place < 4; place++) {
                    Make.tell(x, Make.turnedAbout(n));
                    x.take(place);
                    Check.row("promise 2: place " + place + " of " + n + " after " + before, x, Orders.atRest(n));
                }
            }
        }
    }

    private static void thingsSetHowManyAreOpened() {
        HundredBoxes x = Make.of(18);
        x.opens(18);
        for (int n = 18; n >= 1; n--) {
            x.things(n);
            Check.due("promise 2: m of " + n + ", first 18", x.count(1), n == 1 ? 1 : 2);
            x.opens(n);
        }
        for (int n = 1; n <= 18; n++) {
            x.things(n);
            Check.due("promise 2: m of " + n + ", first 1", x.count(1), n == 1 ? 1 : 2);
            x.opens(1);
        }
        x.things(18);
        Check.due("promise 2: m of as many as before", x.count(1), 2);
    }

    /** From and to every number of THINGS, so that the first and the last PLAYER of each are among them. */
    private static void thingsEmptyTheLists() {
        for (int from = 1; from <= 18; from++) {
            for (int to = 1; to <= 18; to++) {
                String where = "promise 2: from " + from + " to " + to;
                HundredBoxes x = Make.of(from);
                for (int player = 0; player < from; player++) x.list(player, from - 1 - player);
                x.things(to);
                Check.due(where + ", BOXES in all lists", x.count(2), 0);
                x.things(from);
                for (int player = 0; player < from; player++) {
                    Check.due(where + ", list of " + player, x.list(player, from - 1 - player), 1);
                }
            }
        }
    }

    private static void figuresFromTheLowest() {
        HundredBoxes x = new HundredBoxes();
        Check.due("promise 3: 2 + 0 18 + 3 18^2 + 1 18^3", x.order(2 + 3 * 324 + 5832, 0), 1);
        Check.row("promise 3: 2 + 0 18 + 3 18^2 + 1 18^3", x, 2, 0, 3, 1);
    }

    private static void orderOfOneThing() {
        HundredBoxes x = Make.of(1);
        Check.due("promise 3: order(0, 0) of 1", x.order(0, 0), 1);
        Check.row("promise 3: order(0, 0) of 1", x, 0);
        Check.due("promise 3: order(1, 0) of 1", x.order(1, 0), BAD);
        Check.due("promise 3: order(18, 0) of 1", x.order(18, 0), BAD);
        Check.due("promise 3: order(0, 1) of 1", x.order(0, 1), BAD);
    }

    private static void ninthFigureIsTheLastOfTold() {
        HundredBoxes x = Make.of(9);
        int[] a = {8, 7, 6, 5, 4, 3, 2, 0, 1};
        long told = Orders.figures(a)[0];
        Check.due("promise 3: 9 figures of told", x.order(told, 0), 1);
        Check.row("promise 3: 9 figures of told", x, a);
        Check.due("promise 3: a figure of more with 9", x.order(told, 1), BAD);
        Check.due("promise 3: none of more with 10", Make.of(10).order(told, 0), BAD);
    }

    private static void tenthThingIsTheFirstOfMore() {
        HundredBoxes x = Make.of(10);
        int[] a = {9, 8, 7, 6, 5, 4, 3, 2, 1, 0};
        long told = Orders.figures(a)[0];
        Check.due("promise 3: the tenth is 0", x.order(told, 0), 1);
        Check.row("promise 3: the tenth is 0", x, a);
        long nine = Orders.figures(Orders.atRest(9))[0];
        Check.due("promise 3: the tenth is 9", x.order(nine, 9), 1);
        Check.row("promise 3: the tenth is 9", x, Orders.atRest(10));
        Check.due("promise 3: the tenth is 8 again", x.order(nine, 8), BAD);
        Check.due("promise 3: the tenth is 10", x.order(nine, 10), BAD);
        Check.due("promise 3: an eleventh", x.order(nine, 9 + 18), BAD);
        Check.due("promise 3: a tenth in told", x.order(nine + 9 * 198359290368L, 0), BAD);
    }

    /** 17 as the highest figure of told, and of more. */
    private static void greatestFigures() {
        HundredBoxes x = Make.of(18);
        int[] a = {9, 10, 11, 12, 13, 14, 15, 16, 17, 0, 1, 2, 3, 4, 5, 6, 7, 8};
        Check.due("promise 3: the greatest told", Make.tell(x, a), 1);
        Check.row("promise 3: the greatest told", x, a);
        Check.due("promise 3: the greatest more", Make.tell(x, Orders.atRest(18)), 1);
        Check.row("promise 3: the greatest more", x, Orders.atRest(18));
        Check.due("promise 3: nothing but 17", x.order(198359290367L, 198359290367L), BAD);
    }

    private static void figureThatIsNoThing() {
        for (int n = 1; n < 18; n++) {
            for (int i = 0; i < n; i++) {
                HundredBoxes x = Make.of(n);
                int[] a = Orders.atRest(n);
                a[i] = n;
                Check.due("promise 3: a(" + i + ") = " + n, Make.tell(x, a), BAD);
                a[i] = 17;
                Check.due("promise 3: a(" + i + ") = 17 of " + n, Make.tell(x, a), BAD);
            }
        }
    }

    private static void figureTwice() {
        for (int n = 2; n <= 18; n++) {
            for (int i = 0; i < n; i++) {
                HundredBoxes x = Make.of(n);
                Make.tell(x, Make.turnedAbout(n));
                int[] a = Orders.atRest(n);
                a[i] = (i + 1) % n;
                Check.due("promise 3: " + a[i] + " twice of " + n, Make.tell(x, a), BAD);
                Check.row("promise 3: " + a[i] + " twice of " + n, x, Make.turnedAbout(n));
            }
        }
    }

    private static void figuresAboveTold() {
        for (int n = 1; n <= 18; n++) {
            HundredBoxes x = Make.of(n);
            long[] right = Orders.figures(Make.turnedAbout(n));
            long above = 1;
            for (int i = 0; i < Math.min(n, 9); i++) above *= 18;
            for (long wrong = above; wrong > 0 && wrong < Long.MAX_VALUE / 20; wrong *= 18) {
                Check.due("promise 3: told and " + wrong + " of " + n, x.order(right[0] + wrong, right[1]), BAD);
            }
            Check.row("promise 3: told with more figures", x, Orders.atRest(n));
            Check.due("promise 3: told with no more figures", x.order(right[0], right[1]), 1);
        }
    }

    private static void figuresAboveMore() {
        for (int n = 1; n <= 18; n++) {
            HundredBoxes x = Make.of(n);
            long[] right = Orders.figures(Make.turnedAbout(n));
            long above = 1;
            for (int i = 9; i < n; i++) above *= 18;
            for (long wrong = above; wrong > 0 && wrong < Long.MAX_VALUE / 20; wrong *= 18) {
                Check.due("promise 3: more and " + wrong + " of " + n, x.order(right[0], right[1] + wrong), BAD);
            }
            Check.row("promise 3: more with more figures", x, Orders.atRest(n));
            Check.due("promise 3: more with no more figures", x.order(right[0], right[1]), 1);
        }
    }

    /** -18^9 has nothing but 0 as the figures that are looked at. */
    private static void figuresBelowNought() {
        HundredBoxes x = Make.of(1);
        for (long wrong : new long[] {-1, -18, -324, -198359290368L, Long.MIN_VALUE}) {
            Check.due("promise 3: order(" + wrong + ", 0)", x.order(wrong, 0), BAD);
            Check.due("promise 3: order(0, " + wrong + ")", x.order(0, wrong), BAD);
        }
        long[] right = Orders.figures(Orders.atRest(18));
        Check.due("promise 3: -told", Make.of(18).order(-right[0], right[1]), BAD);
        Check.due("promise 3: -more", Make.of(18).order(right[0], -right[1]), BAD);
    }

    private static void orderChangesNothingElse() {
        HundredBoxes x = new HundredBoxes();
        x.opens(3);
        x.list(1, 2);
        Make.tell(x, 3, 1, 0, 2);
        Check.due("promise 3: m stays", x.count(1), 3);
        Check.due("promise 3: the lists stay", x.count(2), 1);
        for (int place = 0; place < 4; place++) {
            x.take(place);
            Check.row("promise 3: place " + place + " stays", x, 0, 1, 2, 3);
        }
    }

    private static void firstAndLastPlaceOfTheRow() {
        for (int n = 1; n <= 18; n++) {
            HundredBoxes x = Make.of(n);
            Make.tell(x, Make.turnedAbout(n));
            Check.due("promise 4: at(0) of " + n, x.at(0), n - 1);
            Check.due("promise 4: at(" + (n - 1) + ")", x.at(n - 1), 0);
            Check.due("promise 4: at(-1) of " + n, x.at(-1), BAD);
            Check.due("promise 4: at(" + n + ") of " + n, x.at(n), BAD);
        }
    }

    private static void noThingOfABiggerRow() {
        HundredBoxes x = Make.of(18);
        x.things(3);
        for (int i = 3; i < 18; i++) Check.due("promise 4: at(" + i + ") of 3, first 18", x.at(i), BAD);
    }

    private static void swapOfTheEnds() {
        for (int n = 2; n <= 18; n++) {
            HundredBoxes x = Make.of(n);
            int[] a = Orders.atRest(n);
            a[0] = n - 1;
            a[n - 1] = 0;
            Check.due("promise 5: swap(0, " + (n - 1) + ")", x.swap(0, n - 1), 1);
            Check.row("promise 5: swap(0, " + (n - 1) + ")", x, a);
            Check.due("promise 5: swap(" + (n - 1) + ", 0)", x.swap(n - 1, 0), 1);
            Check.row("promise 5: swap(" + (n - 1) + ", 0)", x, Orders.atRest(n));
            Check.due("promise 5: swap(0, " + n + ")", x.swap(0, n), BAD);
            Check.due("promise 5: swap(" + n + ", 0)", x.swap(n, 0), BAD);
            Check.due("promise 5: swap(0, -1)", x.swap(0, -1), BAD);
            Check.due("promise 5: swap(-1, 0)", x.swap(-1, 0), BAD);
            Check.row("promise 5: refused", x, Orders.atRest(n));
        }
    }

    /** Places are changed, not THINGS: swap(1, 2) of 2 0 1 is not that with 1 and 2 changed. */
    private static void swapOfOneWithItself() {
        HundredBoxes x = Make.of(3);
        Make.tell(x, 2, 0, 1);
        for (int i = 0; i < 3; i++) {
            Check.due("promise 5: swap(" + i + ", " + i + ")", x.swap(i, i), 1);
            Check.row("promise 5: swap(" + i + ", " + i + ")", x, 2, 0, 1);
        }
        x.swap(1, 2);
        Check.row("promise 5: swap(1, 2)", x, 2, 1, 0);
        Check.due("promise 5: swap(0, 0) of 1", Make.of(1).swap(0, 0), 1);
    }

    private static void firstAndLastPlaceOfTheShelf() {
        HundredBoxes x = new HundredBoxes();
        Make.tell(x, 1, 0, 2, 3);
        Check.due("promise 6: lay(0)", x.lay(0), 1);
        Make.tell(x, 0, 1, 3, 2);
        Check.due("promise 6: lay(3)", x.lay(3), 1);
        Check.due("promise 6: lay(-1)", x.lay(-1), BAD);
        Check.due("promise 6: lay(4)", x.lay(4), BAD);
        Check.due("promise 7: take(-1)", x.take(-1), BAD);
        Check.due("promise 7: take(4)", x.take(4), BAD);
        Check.due("promise 8: then(-1)", x.then(-1), BAD);
        Check.due("promise 8: then(4)", x.then(4), BAD);
        Check.row("promise 6: refused", x, 0, 1, 3, 2);
        Check.due("promise 7: take(0)", x.take(0), 1);
        Check.row("promise 7: take(0)", x, 1, 0, 2, 3);
        Check.due("promise 7: take(3)", x.take(3), 1);
        Check.row("promise 7: take(3)", x, 0, 1, 3, 2);
        for (int place = 1; place < 3; place++) {
            x.take(place);
            Check.row("promise 6: place " + place + " stays", x, 0, 1, 2, 3);
        }
    }

    private static void layIsACopy() {
        HundredBoxes x = new HundredBoxes();
        Make.tell(x, 3, 0, 1, 2);
        x.lay(1);
        Check.row("promise 6: THE ORDER stays", x, 3, 0, 1, 2);
        x.swap(0, 1);
        x.back();
        x.take(1);
        Check.row("promise 6: the place stays", x, 3, 0, 1, 2);
        x.row(-1, 0, 7);
        x.lay(1);
        x.row(-1, 0, 0);
        x.take(1);
        Check.row("promise 6: laid anew", x, 1, 0, 3, 2);
    }

    private static void takeIsACopy() {
        HundredBoxes x = new HundredBoxes();
        Make.tell(x, 3, 0, 1, 2);
        x.lay(2);
        x.take(2);
        x.swap(0, 3);
        x.toRounds();
        x.take(2);
        Check.row("promise 7: a second time", x, 3, 0, 1, 2);
    }

    private static void takeOfAPlaceNeverLaidOn() {
        for (int n = 1; n <= 18; n++) {
            for (int place = 0; place < 4; place++) {
                HundredBoxes x = Make.of(n);
                Make.tell(x, Make.oneOn(n));
                Check.due("promise 7: take(" + place + ")", x.take(place), 1);
                Check.row("promise 7: take(" + place + ")", x, Orders.atRest(n));
            }
        }
    }

    private static void thenGoesByAFirst() {
        for (int place = 0; place < 4; place++) {
            HundredBoxes x = Make.of(3);
            Make.tell(x, 1, 0, 2);
            x.lay(place);
            Make.tell(x, 1, 2, 0);
            Check.due("promise 8: then(" + place + ")", x.then(place), 1);
            Check.row("promise 8: i goes to b(a(i))", x, 0, 2, 1);
            x.take(place);
            Check.row("promise 8: the place stays", x, 1, 0, 2);
        }
    }

    private static void thenByItself() {
        for (int n = 1; n <= 18; n++) {
            HundredBoxes x = Make.of(n);
            Make.tell(x, Make.oneOn(n));
            x.lay(3);
            for (int i = 1; i < n; i++) {
                Check.due("promise 8: at(0) after " + i + " of " + n, x.at(0), i % n);
                x.then(3);
            }
            Check.row("promise 8: once round of " + n, x, Orders.atRest(n));
        }
    }

    private static void thenByAPlaceAtRest() {
        HundredBoxes x = Make.of(18);
        Make.tell(x, Make.turnedAbout(18));
        for (int place = 0; place < 4; place++) {
            Check.due("promise 8: then(" + place + ") at rest", x.then(place), 1);
            Check.row("promise 8: then(" + place + ") at rest", x, Make.turnedAbout(18));
        }
    }

    private static void backOfRestAndOfPairs() {
        for (int n = 1; n <= 18; n++) {
            HundredBoxes x = Make.of(n);
            Check.due("promise 9: back() at rest", x.back(), 1);
            Check.row("promise 9: back() at rest", x, Orders.atRest(n));
            Make.tell(x, Make.turnedAbout(n));
            Check.due("promise 9: back() turned about", x.back(), 1);
            Check.row("promise 9: back() turned about", x, Make.turnedAbout(n));
        }
    }

    private static void backOfOneRound() {
        for (int n = 1; n <= 18; n++) {
            HundredBoxes x = Make.of(n);
            Make.tell(x, Make.oneOn(n));
            x.back();
            Check.due("promise 9: at(0) of " + n, x.at(0), n - 1);
            for (int i = 1; i < n; i++) Check.due("promise 9: at(" + i + ") of " + n, x.at(i), i - 1);
            x.back();
            Check.row("promise 9: twice", x, Make.oneOn(n));
        }
    }

    private static void numbers(String what, HundredBoxes x, int... want) {
        for (int k = 0; k < 8; k++) Check.due("promise 10: " + what + ", number(" + k + ")", x.number(k), want[k]);
        Check.due("promise 10: number(-1)", x.number(-1), BAD);
        Check.due("promise 10: number(8)", x.number(8), BAD);
    }

    private static void numbersOfOneThing() {
        numbers("one THING", Make.of(1), 1, 1, 0, 1, 1, 0, 1, 1);
    }

    private static void numbersAtRest() {
        for (int n = 1; n <= 18; n++) numbers("at rest, " + n, Make.of(n), n, n, n - 1, n, 1, 0, n, 1);
    }

    private static void numbersOfTheRowTurnedAbout() {
        for (int n = 2; n <= 18; n++) {
            HundredBoxes x = Make.of(n);
            Make.tell(x, Make.turnedAbout(n));
            numbers("turned about, " + n, x, (n + 1) / 2, 1, 0, n % 2, 2, n * (n - 1) / 2, 1, 2);
        }
    }

    private static void numbersOfOneRound() {
        for (int n = 2; n <= 18; n++) {
            HundredBoxes x = Make.of(n);
            Make.tell(x, Make.oneOn(n));
            numbers("one ROUND, " + n, x, 1, n - 1, n - 2, 0, n, n - 1, n - 1, n);
        }
    }

    private static void roundsOfOneCount() {
        HundredBoxes x = Make.of(6);
        Make.tell(x, 0, 2, 1, 3, 4, 5);
        Check.due("promise 10: ROUNDS, four of one THING", x.number(0), 5);
        Check.due("promise 10: STILL", x.number(3), 4);
        Check.due("promise 10: the longest ROUND", x.number(4), 2);
    }

    private static void theFirstIsARecord() {
        HundredBoxes x = Make.of(5);
        Make.tell(x, 0, 4, 1, 2, 3);
        Check.due("promise 10: RECORDS, the first is 0", x.number(1), 2);
        Make.tell(x, 4, 0, 1, 2, 3);
        Check.due("promise 10: RECORDS, the first is 4", x.number(1), 1);
        Make.tell(x, 3, 0, 1, 2, 4);
        Check.due("promise 10: RECORDS, the first and the last", x.number(1), 2);
    }

    private static void theLastIsNoRise() {
        HundredBoxes x = Make.of(2);
        Check.due("promise 10: RISES of 0 1", x.number(2), 1);
        x.swap(0, 1);
        Check.due("promise 10: RISES of 1 0", x.number(2), 0);
        HundredBoxes y = Make.of(5);
        Make.tell(y, 3, 4, 1, 2, 0);
        Check.due("promise 10: RISES at the first place and inside", y.number(2), 2);
        Check.due("promise 10: THE LONGEST RISE need not be next to one another", y.number(6), 2);
        Make.tell(y, 2, 0, 3, 1, 4);
        Check.due("promise 10: THE LONGEST RISE picked out of the row", y.number(6), 3);
    }

    private static void turnsAreOneOrMore() {
        for (int n = 1; n <= 18; n++) Check.due("promise 10: TURNS at rest of " + n, Make.of(n).number(7), 1);
    }

    private static void mostTurns() {
        HundredBoxes x = Make.of(18);
        Make.tell(x, 1, 2, 3, 4, 0, 6, 7, 8, 9, 10, 5, 12, 13, 14, 15, 16, 17, 11);
        Check.due("promise 10: TURNS of ROUNDS of 5, 6, 7", x.number(7), 210);
        Make.tell(x, 0, 2, 1, 4, 5, 3, 7, 8, 9, 10, 6, 12, 13, 14, 15, 16, 17, 11);
        Check.due("promise 10: TURNS of ROUNDS of 1, 2, 3, 5, 7", x.number(7), 210);
        Make.tell(x, 1, 2, 3, 4, 5, 0, 7, 8, 9, 10, 11, 6, 13, 14, 15, 12, 17, 16);
        Check.due("promise 10: TURNS of ROUNDS of 6, 6, 4, 2", x.number(7), 12);
    }

    private static void twoObjectsShareNothing() {
        HundredBoxes x = Make.of(5);
        HundredBoxes y = new HundredBoxes();
        Make.tell(x, 4, 3, 2, 1, 0);
        for (int place = 0; place < 4; place++) x.lay(place);
        x.opens(5);
        x.list(0, 0);
        Check.row("promise 1: another object", y, 0, 1, 2, 3);
        Check.due("promise 1: another object, m", y.count(1), 2);
        Check.due("promise 1: another object, lists", y.count(2), 0);
        for (int place = 0; place < 4; place++) {
            y.take(place);
            Check.row("promise 1: another object, place " + place, y, 0, 1, 2, 3);
        }
        Check.row("promise 1: the first object", x, 4, 3, 2, 1, 0);
    }

    /** 512 calls are promised; the dearest ones are made to and fro, and the last one still answers. */
    private static void the512thCall() {
        HundredBoxes x = new HundredBoxes();
        for (int call = 0; call < 510; call += 3) {
            x.things(call % 18 + 1);
            x.many(6 + call % 2, 3);
            x.mean(5, 1);
        }
        Check.due("call 511: things(18)", x.things(18), 1);
        Check.due("call 512: many(7, 210)", x.many(7, 210), Counts.many(18, 7, 210));
    }
}
