import java.util.Random;

/** Promises 1 to 22: long runs of drawn calls, right and wrong ones, against PlainBoxes. */
public final class ModelTest {
    private static final int RUNS = 600;
    /** The document promises 512 calls on an object; a step of a run makes 31 at most. */
    private static final int MOST_CALLS = 512 - 31;
    private static final int[] EXTREMES = {Integer.MIN_VALUE, Integer.MAX_VALUE, -1000, 18, 19, 100};

    private final Random random;
    private final HundredBoxes boxes = new HundredBoxes();
    private final PlainBoxes plain = new PlainBoxes();

    private ModelTest(long seed) {
        random = new Random(seed);
    }

    public static void main(String[] args) {
        for (int run = 0; run < RUNS; run++) {
            new ModelTest(run).play(run);
        }
        Check.end("ModelTest");
    }

    /** Mostly low .. high, at times just outside, at times far off. */
    private int about(int low, int high) {
        int chance = random.nextInt(25);
        if (chance == 0) return EXTREMES[random.nextInt(EXTREMES.length)];
        if (chance == 1) return low - 1;
        if (chance == 2) return high + 1;
        return low + random.nextInt(high - low + 1);
    }

    private long aboutRow(int n) {
        int chance = random.nextInt(12);
        if (chance == 0) return -1;
        if (chance == 1) return Long.MAX_VALUE;
        if (chance == 2) return Long.MIN_VALUE;
        if (chance == 3) return random.nextInt(6000);
        if (chance < 8) return (long) (random.nextDouble() * random.nextDouble() * Counts.factorial(n));
        return random.nextInt(1 + random.nextInt(200));
    }

    private void play(int run) {
        int before = Check.asked();
        for (int call = 0; Check.asked() - before < MOST_CALLS; call++) {
            String where = "run " + run + ", call " + call + ": ";
            int n = plain.count(0);
            int kind = random.nextInt(23);
            if (kind < 8) {
                callOrder(where, kind, n);
            } else if (kind < 15) {
                callHowMany(where, kind, n);
            } else {
                callBoxes(where, kind, n);
            }
            for (int i = 0; i < plain.count(0); i++) {
                Check.due(where + "afterwards at(" + i + ")", boxes.at(i), plain.at(i));
            }
            for (int what = 0; what < 3; what++) {
                Check.due(where + "afterwards count(" + what + ")", boxes.count(what), plain.count(what));
            }
        }
    }

    private void callOrder(String where, int kind, int n) {
        int i = about(0, n - 1);
        int j = about(0, n - 1);
        int place = about(0, 3);
        switch (kind) {
            case 0: callOrderByFigures(where, n); break;
            case 1: Check.due(where + "at(" + i + ")", boxes.at(i), plain.at(i)); break;
            case 2: Check.due(where + "swap(" + i + ", " + j + ")", boxes.swap(i, j), plain.swap(i, j)); break;
            case 3: Check.due(where + "lay(" + place + ")", boxes.lay(place), plain.lay(place)); break;
            case 4: Check.due(where + "take(" + place + ")", boxes.take(place), plain.take(place)); break;
            case 5: Check.due(where + "then(" + place + ")", boxes.then(place), plain.then(place)); break;
            case 6: Check.due(where + "back()", boxes.back(), plain.back()); break;
            default:
                for (int k = -1; k <= 8; k++) {
                    Check.due(where + "number(" + k + ")", boxes.number(k), plain.number(k));
                }
        }
    }

    private void callOrderByFigures(String where, int n) {
        int[] a = Orders.shuffled(n, random);
        if (random.nextInt(4) == 0) {
            a[random.nextInt(n)] = random.nextInt(18);
        }
        long[] told = Orders.figures(a);
        int chance = random.nextInt(12);
        if (chance == 0) told[1] = 1 + random.nextInt(400);
        if (chance == 1) told[0] += (long) Math.pow(18, Math.min(n, 9));
        if (chance == 4 && n > 9) told[1] += (long) Math.pow(18, n - 9);
        if (chance == 2) told[0] = -told[0] - 1;
        if (chance == 3) told[1] = -1 - random.nextInt(400);
        Check.due(where + "order(" + told[0] + ", " + told[1] + ")",
            boxes.order(told[0], told[1]), plain.order(told[0], told[1]));
    }

    private void callHowMany(String where, int kind, int n) {
        int k = about(0, 7);
        int v = random.nextInt(5) == 0 ? random.nextInt(250) : about(0, n + 3);
        int part = about(0, 1);
        int rowKind = random.nextInt(10) == 0 ? about(-2, 7) : random.nextInt(3) == 0 ? -1 : 1 + random.nextInt(2);
        long ahead = aboutRow(n);
        switch (kind) {
            case 8: Check.due(where + "many(" + k + ", " + v + ")", boxes.many(k, v), plain.many(k, v)); break;
            case 9: Check.due(where + "mean(" + k + ", " + part + ")", boxes.mean(k, part), plain.mean(k, part)); break;
            case 10:
            case 11:
                Check.due(where + "row(" + rowKind + ", " + v + ", " + ahead + ")",
                    boxes.row(rowKind, v, ahead), plain.row(rowKind, v, ahead));
                break;
            case 12: Check.due(where + "place(" + rowKind + ")", boxes.place(rowKind), plain.place(rowKind)); break;
            case 13: Check.due(where + "toRounds()", boxes.toRounds(), plain.toRounds()); break;
            default: Check.due(where + "toRecords()", boxes.toRecords(), plain.toRecords());
        }
    }

    private void callBoxes(String where, int kind, int n) {
        int player = about(0, n - 1);
        int box = about(0, n - 1);
        int way = about(0, 1);
        int m = about(1, n);
        int what = about(0, 2);
        switch (kind) {
            case 15: Check.due(where + "opens(" + m + ")", boxes.opens(m), plain.opens(m)); break;
            case 16:
            case 17:
                for (int i = 0; i < 4; i++) {
                    int other = (box + i) % n;
                    Check.due(where + "list(" + player + ", " + other + ")",
                        boxes.list(player, other), plain.list(player, other));
                }
                Check.due(where + "list(" + player + ", " + box + ")", boxes.list(player, box), plain.list(player, box));
                break;
            case 18: Check.due(where + "forget(" + player + ")", boxes.forget(player), plain.forget(player)); break;
            case 19: Check.due(where + "wins(" + way + ", " + player + ")", boxes.wins(way, player), plain.wins(way, player)); break;
            case 20: Check.due(where + "allWin(" + way + ")", boxes.allWin(way), plain.allWin(way)); break;
            case 21: Check.due(where + "count(" + what + ")", boxes.count(what), plain.count(what)); break;
            default:
                if (random.nextInt(4) == 0) {
                    int things = random.nextBoolean() ? about(1, 7) : about(1, 18);
                    Check.due(where + "things(" + things + ")", boxes.things(things), plain.things(things));
                }
        }
    }
}
