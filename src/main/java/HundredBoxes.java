/**
 * Orders of things, told as rows and as rounds; how many orders have a given number;
 * the row of a number and the number of a row; players who open boxes.
 *
 * The words in capitals (ORDER, ROUND, RECORD, ..) are those of the document.
 */
public final class HundredBoxes {
    public static final int NONE = -1, BAD = -2, NOT = -3, TWICE = -4;

    private static final int DONE = 1;

    private static final int MOST_THINGS = 18;
    private static final int FIRST_THINGS = 4;
    private static final int FIRST_OPENED = 2;
    private static final int SHELF_PLACES = 4;
    private static final int MOST_THINGS_BY_LISTS = 7;

    private static final int FIGURE_BASE = 18;
    private static final int FIGURES_TOLD = 9;

    private static final int ALL = -1;
    private static final int ROUNDS = 0;
    private static final int RECORDS = 1;
    private static final int RISES = 2;
    private static final int STILL = 3;
    private static final int LONGEST_ROUND = 4;
    private static final int OUT = 5;
    private static final int LONGEST_RISE = 6;
    private static final int TURNS = 7;
    private static final int KINDS = 8;

    /** The most TURNS of 18 THINGS: ROUNDS of 5, 6 and 7. */
    private static final int MOST_TURNS = 210;

    /** 18 has 385 partitions; no smaller number has more. */
    private static final int MOST_PARTITIONS = 1000;

    /** Euclid's way needs at most 92 steps for two longs. */
    private static final int MOST_EUCLID_STEPS = 100;

    private static final int BY_ROUNDS = 0;
    private static final int BY_LISTS = 1;

    private final Order current = new Order();
    private final Order[] shelf = new Order[SHELF_PLACES];
    private final Lists lists = new Lists();
    private final Tables tables = new Tables();
    private final Walk walk = new Walk(tables);
    private final Tally[] tallies = new Tally[KINDS * (MOST_THINGS + 1)];
    private int size;
    private int opened;

    public HundredBoxes() {
        for (int place = 0; place < SHELF_PLACES; place++) {
            shelf[place] = new Order();
        }
        startWith(FIRST_THINGS);
    }

    public int things(int n) {
        if (n < 1 || n > MOST_THINGS) {
            return BAD;
        }
        startWith(n);
        return DONE;
    }

    // ---- the order

    public int order(long told, long more) {
        return current.readFigures(told, more) ? DONE : BAD;
    }

    public int at(int i) {
        return isThing(i) ? current.follow(i) : BAD;
    }

    public int swap(int i, int j) {
        if (!isThing(i) || !isThing(j)) {
            return BAD;
        }
        current.exchange(i, j);
        return DONE;
    }

    public int lay(int place) {
        if (!isPlace(place)) {
            return BAD;
        }
        shelf[place].copyFrom(current);
        return DONE;
    }

    public int take(int place) {
        if (!isPlace(place)) {
            return BAD;
        }
        current.copyFrom(shelf[place]);
        return DONE;
    }

    public int then(int place) {
        if (!isPlace(place)) {
            return BAD;
        }
        current.goOnBy(shelf[place]);
        return DONE;
    }

    public int back() {
        current.turnBack();
        return DONE;
    }

    public int number(int k) {
        return isKind(k) ? current.numberOf(k) : BAD;
    }

    // ---- how many

    public long many(int k, int v) {
        return isKind(k) ? tallyOf(k).ordersWith(v) : BAD;
    }

    public long mean(int k, int part) {
        if (!isKind(k) || part < 0 || part > 1) {
            return BAD;
        }
        long sum = tallyOf(k).sumOfNumbers();
        long orders = tables.ordersOf(size);
        return quotient(part == 0 ? sum : orders, commonDivisor(sum, orders));
    }

    public int row(int kind, int v, long k) {
        if (!isRowKind(kind) || k < 0) {
            return BAD;
        }
        walk.start(kind, size, v);
        if (k >= walk.waysAtStart()) {
            return NONE;
        }
        walk.writeRow(k, current);
        return DONE;
    }

    public long place(int kind) {
        if (!isRowKind(kind)) {
            return BAD;
        }
        walk.start(kind, size, kind == ALL ? 0 : current.numberOf(kind));
        return walk.rowsAheadOf(current);
    }

    public int toRounds() {
        current.makeRounds();
        return DONE;
    }

    public int toRecords() {
        current.makeRecords();
        return DONE;
    }

    // ---- boxes

    public int opens(int m) {
        if (m < 1 || m > size) {
            return BAD;
        }
        int before = opened;
        opened = m;
        return before;
    }

    public int list(int player, int box) {
        if (!isThing(player) || !isThing(box)) {
            return BAD;
        }
        return lists.hasBox(player, box) ? TWICE : lists.addBox(player, box);
    }

    public int forget(int player) {
        return isThing(player) ? lists.emptyOne(player) : BAD;
    }

    public int wins(int way, int player) {
        if (!isWay(way) || !isThing(player)) {
            return BAD;
        }
        boolean won = way == BY_ROUNDS
            ? current.roundLength(player) <= opened
            : lists.findsOwnThing(player, opened, current);
        return won ? 1 : 0;
    }

    public long allWin(int way) {
        if (!isWay(way)) {
            return BAD;
        }
        if (way == BY_ROUNDS) {
            // Each finds its own THING at the end of its ROUND, so no ROUND may be longer than m.
            return tables.withRoundsUpTo(opened, size);
        }
        return size > MOST_THINGS_BY_LISTS ? NOT : lists.ordersWonByAll(size, opened);
    }

    public int count(int what) {
        switch (what) {
            case 0: return size;
            case 1: return opened;
            case 2: return lists.boxesInAll();
            default: return BAD;
        }
    }

    // ---- the object's own

    private void startWith(int n) {
        size = n;
        opened = Math.min(FIRST_OPENED, n);
        current.startWith(n);
        for (int place = 0; place < SHELF_PLACES; place++) {
            shelf[place].startWith(n);
        }
        lists.emptyAll();
    }

    private boolean isThing(int i) {
        return i >= 0 && i < size;
    }

    private static boolean isPlace(int place) {
        return place >= 0 && place < SHELF_PLACES;
    }

    private static boolean isKind(int k) {
        return k >= 0 && k < KINDS;
    }

    private static boolean isRowKind(int kind) {
        return kind == ALL || kind == RECORDS || kind == RISES;
    }

    private static boolean isWay(int way) {
        return way == BY_ROUNDS || way == BY_LISTS;
    }

    /** Kept for each number of THINGS, so that changing to and fro costs no new room. */
    private Tally tallyOf(int kind) {
        int slot = kind * (MOST_THINGS + 1) + size;
        if (tallies[slot] == null) {
            tallies[slot] = new Tally(kind, size, tables);
        }
        return tallies[slot];
    }

    private static long commonDivisor(long one, long other) {
        long a = one;
        long b = other;
        for (int step = 0; step < MOST_EUCLID_STEPS && b != 0; step++) {
            long rest = a % b;
            a = b;
            b = rest;
        }
        return a;
    }

    private static int commonMultiple(int one, int other) {
        return (int) quotient((long) one * other, commonDivisor(one, other));
    }

    private static long quotient(long above, long below) {
        return below == 0 ? 0 : above / below;
    }

    private static long entry(long[] row, int v) {
        return v >= 0 && v < row.length ? row[v] : 0;
    }

    /** One ORDER, and the NUMBERS that are read off it. */
    private static final class Order {
        private final int[] row = new int[MOST_THINGS];
        /** Where a new row is made while the old one is still read. */
        private final int[] made = new int[MOST_THINGS];
        private int size;

        void startWith(int n) {
            size = Math.min(n, MOST_THINGS);
            for (int i = 0; i < size; i++) {
                row[i] = i;
            }
        }

        boolean holds(int i) {
            return i >= 0 && i < size;
        }

        int follow(int i) {
            return holds(i) ? row[i] : 0;
        }

        void makeAt(int i, int thing) {
            if (holds(i)) {
                made[i] = thing;
            }
        }

        void keepMade() {
            for (int i = 0; i < size; i++) {
                row[i] = made[i];
            }
        }

        boolean readFigures(long told, long more) {
            if (told < 0 || more < 0) {
                return false;
            }
            long low = told;
            long high = more;
            int seen = 0;
            for (int i = 0; i < size; i++) {
                boolean isLow = i < FIGURES_TOLD;
                int figure = (int) ((isLow ? low : high) % FIGURE_BASE);
                if (!holds(figure)) {
                    return false;
                }
                if (isLow) {
                    low /= FIGURE_BASE;
                } else {
                    high /= FIGURE_BASE;
                }
                made[i] = figure;
                seen |= 1 << figure;
            }
            if (low != 0 || high != 0 || seen != (1 << size) - 1) {
                return false;
            }
            keepMade();
            return true;
        }

        void exchange(int i, int j) {
            if (holds(i) && holds(j)) {
                int thing = row[i];
                row[i] = row[j];
                row[j] = thing;
            }
        }

        void copyFrom(Order other) {
            for (int i = 0; i < size; i++) {
                row[i] = other.row[i];
            }
        }

        void goOnBy(Order other) {
            for (int i = 0; i < size; i++) {
                row[i] = other.follow(row[i]);
            }
        }

        void turnBack() {
            for (int i = 0; i < size; i++) {
                makeAt(row[i], i);
            }
            keepMade();
        }

        /** Each RECORD is the greatest of its piece, so it is the head that the piece's end goes to. */
        void makeRounds() {
            int head = row[0];
            for (int i = 0; i + 1 < size; i++) {
                int next = row[i + 1];
                makeAt(row[i], next > head ? head : next);
                head = Math.max(head, next);
            }
            makeAt(follow(size - 1), head);
            keepMade();
        }

        /** ROUNDS by their greatest THINGS, each told from it: only so do the pieces begin at RECORDS. */
        void makeRecords() {
            int filled = 0;
            for (int head = 0; head < size; head++) {
                if (!leadsRound(head)) {
                    continue;
                }
                int thing = head;
                for (int left = roundLength(head); left > 0; left--) {
                    makeAt(filled, thing);
                    filled++;
                    thing = follow(thing);
                }
            }
            keepMade();
        }

        int roundLength(int i) {
            int thing = follow(i);
            int length = 1;
            while (thing != i && length < size) {
                thing = follow(thing);
                length++;
            }
            return length;
        }

        /** Whether i is the greatest of its ROUND, so that each ROUND has just one that leads it. */
        boolean leadsRound(int i) {
            int thing = follow(i);
            for (int step = 0; step < size && thing < i; step++) {
                thing = follow(thing);
            }
            return thing == i;
        }

        int numberOf(int kind) {
            switch (kind) {
                case ROUNDS: return rounds();
                case RECORDS: return records();
                case RISES: return rises();
                case STILL: return still();
                case LONGEST_ROUND: return longestRound();
                case OUT: return pairsOut();
                case LONGEST_RISE: return longestRise();
                case TURNS: return turns();
                default: return BAD;
            }
        }

        int rounds() {
            int found = 0;
            for (int i = 0; i < size; i++) {
                if (leadsRound(i)) {
                    found++;
                }
            }
            return found;
        }

        int records() {
            int found = 0;
            int top = -1;
            for (int i = 0; i < size; i++) {
                if (row[i] > top) {
                    top = row[i];
                    found++;
                }
            }
            return found;
        }

        int rises() {
            int found = 0;
            for (int i = 0; i + 1 < size; i++) {
                if (row[i] < row[i + 1]) {
                    found++;
                }
            }
            return found;
        }

        int still() {
            int found = 0;
            for (int i = 0; i < size; i++) {
                if (row[i] == i) {
                    found++;
                }
            }
            return found;
        }

        int longestRound() {
            int longest = 0;
            for (int i = 0; i < size; i++) {
                longest = Math.max(longest, roundLength(i));
            }
            return longest;
        }

        int pairsOut() {
            int found = 0;
            for (int j = 0; j < size; j++) {
                for (int i = 0; i < j; i++) {
                    if (row[i] > row[j]) {
                        found++;
                    }
                }
            }
            return found;
        }

        int longestRise() {
            int longest = 0;
            for (int j = 0; j < size; j++) {
                int before = 0;
                for (int i = 0; i < j; i++) {
                    if (row[i] < row[j]) {
                        before = Math.max(before, made[i]);
                    }
                }
                // The longest rise that ends here; made is free between two makings.
                made[j] = before + 1;
                longest = Math.max(longest, made[j]);
            }
            return longest;
        }

        int turns() {
            int turns = 1;
            for (int i = 0; i < size; i++) {
                if (leadsRound(i)) {
                    turns = commonMultiple(turns, roundLength(i));
                }
            }
            return turns;
        }
    }

    /** The PLAYERS' lists of BOXES. */
    private static final class Lists {
        private final int[][] boxes = new int[MOST_THINGS][MOST_THINGS];
        private final int[] lengths = new int[MOST_THINGS];
        private final long[] ways = new long[1 << MOST_THINGS_BY_LISTS];

        void emptyAll() {
            for (int player = 0; player < MOST_THINGS; player++) {
                lengths[player] = 0;
            }
        }

        int emptyOne(int player) {
            if (!holds(player)) {
                return 0;
            }
            int had = lengths[player];
            lengths[player] = 0;
            return had;
        }

        boolean holds(int player) {
            return player >= 0 && player < MOST_THINGS;
        }

        boolean hasBox(int player, int box) {
            int length = firstOf(player, MOST_THINGS);
            for (int i = 0; i < length; i++) {
                if (boxes[player][i] == box) {
                    return true;
                }
            }
            return false;
        }

        int addBox(int player, int box) {
            if (!holds(player) || lengths[player] >= MOST_THINGS) {
                return BAD;
            }
            boxes[player][lengths[player]] = box;
            lengths[player]++;
            return lengths[player];
        }

        int boxesInAll() {
            int all = 0;
            for (int player = 0; player < MOST_THINGS; player++) {
                all += lengths[player];
            }
            return all;
        }

        /** How many BOXES a PLAYER opens who may open so many. */
        int firstOf(int player, int opened) {
            return holds(player) ? Math.min(lengths[player], Math.min(opened, MOST_THINGS)) : 0;
        }

        boolean findsOwnThing(int player, int opened, Order order) {
            int reach = firstOf(player, opened);
            for (int i = 0; i < reach; i++) {
                if (order.follow(boxes[player][i]) == player) {
                    return true;
                }
            }
            return false;
        }

        /**
         * An ORDER puts each PLAYER's THING into a BOX of its own. So the PLAYERS are gone through in
         * turn, and ways tells for each set of BOXES how the THINGS so far may fill just that set.
         */
        long ordersWonByAll(int size, int opened) {
            if (size < 1 || size > MOST_THINGS_BY_LISTS) {
                return NOT;
            }
            int full = (1 << size) - 1;
            for (int set = 0; set <= full; set++) {
                ways[set] = 0;
            }
            ways[0] = 1;
            for (int set = 0; set < full; set++) {
                if (ways[set] != 0) {
                    placeNextThing(set, full, opened);
                }
            }
            return ways[full];
        }

        void placeNextThing(int set, int full, int opened) {
            int player = Integer.bitCount(set);
            int reach = firstOf(player, opened);
            for (int i = 0; i < reach; i++) {
                int grown = set | 1 << boxes[player][i];
                if (grown > set && grown <= full) {
                    ways[grown] += ways[set];
                }
            }
        }
    }

    /** Counts of rows and of what may still follow in a row, for every number of THINGS. */
    private static final class Tables {
        private final long[] factorials = new long[MOST_THINGS + 1];
        private final long[] deranged = new long[MOST_THINGS + 1];
        /** [n][v]: ORDERS of n THINGS with v RECORDS. */
        private final long[][] records = new long[MOST_THINGS + 1][MOST_THINGS + 1];
        /** [m][n]: ORDERS of n THINGS with no ROUND longer than m. */
        private final long[][] roundsUpTo = new long[MOST_THINGS + 1][MOST_THINGS + 1];
        /** By riseSlot: see withRises. */
        private final long[] rises = new long[riseSlot(MOST_THINGS + 1, 0, 0)];

        Tables() {
            fillFactorials();
            fillDeranged();
            fillRecords();
            fillRoundsUpTo();
            fillRises();
        }

        private void fillFactorials() {
            factorials[0] = 1;
            for (int n = 1; n <= MOST_THINGS; n++) {
                factorials[n] = factorials[n - 1] * n;
            }
        }

        private void fillDeranged() {
            deranged[0] = 1;
            for (int n = 2; n <= MOST_THINGS; n++) {
                deranged[n] = (n - 1) * (deranged[n - 1] + deranged[n - 2]);
            }
        }

        /** The least THING comes into a row at its head, as a RECORD, or behind any other, as none. */
        private void fillRecords() {
            records[0][0] = 1;
            for (int n = 1; n <= MOST_THINGS; n++) {
                for (int v = 1; v <= n; v++) {
                    records[n][v] = records[n - 1][v - 1] + (n - 1) * records[n - 1][v];
                }
            }
        }

        private void fillRoundsUpTo() {
            for (int m = 0; m <= MOST_THINGS; m++) {
                roundsUpTo[m][0] = 1;
                for (int n = 1; n <= MOST_THINGS; n++) {
                    roundsUpTo[m][n] = sumByRoundOfLast(m, n);
                }
            }
        }

        private long sumByRoundOfLast(int m, int n) {
            long sum = 0;
            long roundsOfLast = 1;
            for (int length = 1; length <= n && length <= m; length++) {
                sum += roundsOfLast * roundsUpTo[m][n - length];
                roundsOfLast *= n - length;
            }
            return sum;
        }

        private void fillRises() {
            rises[0] = 1;
            for (int rest = 1; rest <= MOST_THINGS; rest++) {
                for (int v = 0; v <= rest; v++) {
                    fillRisesByBelow(rest, v);
                }
            }
        }

        /** With one more THING below the last, the step to that THING falls where it rose before. */
        private void fillRisesByBelow(int rest, int v) {
            long ways = 0;
            for (int next = 0; next < rest; next++) {
                ways += withRises(rest - 1, next, v - 1);
            }
            rises[riseSlot(rest, 0, v)] = ways;
            for (int below = 1; below <= rest; below++) {
                ways += withRises(rest - 1, below - 1, v) - withRises(rest - 1, below - 1, v - 1);
                rises[riseSlot(rest, below, v)] = ways;
            }
        }

        /** The squares 1, 4, 9, .. of the smaller rests stand ahead of a rest's own square. */
        private static int riseSlot(int rest, int below, int v) {
            return rest * (rest + 1) * (2 * rest + 1) / 6 + below * (rest + 1) + v;
        }

        long ordersOf(int n) {
            return entry(factorials, n);
        }

        /** C(n, v) times the ORDERS of the others with none at rest. */
        long withStill(int n, int v) {
            if (v < 0 || v > n) {
                return 0;
            }
            long ways = entry(deranged, n - v);
            for (int i = 1; i <= v; i++) {
                ways = ways * (n - v + i) / i;
            }
            return ways;
        }

        long withRoundsUpTo(int m, int n) {
            return m >= 0 && m <= MOST_THINGS ? entry(roundsUpTo[m], n) : 0;
        }

        /**
         * Ways to end a row with v more RECORDS, if rest THINGS are left and above of them are greater
         * than all in the row: only the row of these tells the RECORDS, the others come in anywhere.
         */
        long withRecords(int rest, int above, int v) {
            if (above < 0 || above > rest || rest > MOST_THINGS) {
                return 0;
            }
            long ways = entry(records[above], v);
            for (int n = above + 1; n <= rest; n++) {
                ways *= n;
            }
            return ways;
        }

        /**
         * Ways to end a row with v more RISES, if rest THINGS are left and below of them are less than
         * the row's last. With all of them below it stands for a whole row too: nothing rises into it.
         */
        long withRises(int rest, int below, int v) {
            if (rest < 0 || rest > MOST_THINGS || below < 0 || below > rest || v < 0 || v > rest) {
                return 0;
            }
            return entry(rises, riseSlot(rest, below, v));
        }
    }

    /** HOW MANY of one kind, for one number of THINGS and each v. */
    private static final class Tally {
        private final int size;
        private final Tables tables;
        private final long[] orders;

        Tally(int kind, int size, Tables tables) {
            this.size = size;
            this.tables = tables;
            orders = new long[greatest(kind, size) + 1];
            if (kind == OUT) {
                fillPairsOut();
            } else if (kind == LONGEST_RISE || kind == TURNS) {
                fillByPartitions(kind);
            } else {
                fillByTables(kind);
            }
        }

        private static int greatest(int kind, int size) {
            switch (kind) {
                case OUT: return Math.max(0, size * (size - 1) / 2);
                case TURNS: return MOST_TURNS;
                default: return Math.max(0, size);
            }
        }

        private void fillByTables(int kind) {
            for (int v = 0; v < orders.length; v++) {
                orders[v] = fromTables(kind, v);
            }
        }

        private long fromTables(int kind, int v) {
            switch (kind) {
                // By MADE ROUNDS as many ORDERS have v ROUNDS as have v RECORDS.
                case ROUNDS:
                case RECORDS: return tables.withRecords(size, size, v);
                case RISES: return tables.withRises(size, size, v);
                case STILL: return tables.withStill(size, v);
                case LONGEST_ROUND:
                    return tables.withRoundsUpTo(v, size) - tables.withRoundsUpTo(v - 1, size);
                default: return 0;
            }
        }

        /** The n-th THING, greater than those so far, comes ahead of 0 .. n - 1 of them. */
        private void fillPairsOut() {
            orders[0] = 1;
            for (int n = 2; n <= size; n++) {
                // From the greatest v down, since v takes in the old counts of those below it.
                for (int v = orders.length - 1; v > 0; v--) {
                    for (int less = Math.max(0, v - n + 1); less < v; less++) {
                        orders[v] += orders[less];
                    }
                }
            }
        }

        private void fillByPartitions(int kind) {
            Partition parts = new Partition(size);
            boolean more = true;
            for (int step = 0; step < MOST_PARTITIONS && more; step++) {
                if (kind == LONGEST_RISE) {
                    // A pair of standard tableaux of one shape is one ORDER, the first line its rise.
                    long tableaux = quotient(tables.ordersOf(size), parts.hookProduct());
                    addOrders(parts.firstPart(), tableaux * tableaux);
                } else {
                    addOrders(parts.turns(), quotient(tables.ordersOf(size), parts.sameRounds()));
                }
                more = parts.goOn();
            }
        }

        private void addOrders(int v, long more) {
            if (v >= 0 && v < orders.length) {
                orders[v] += more;
            }
        }

        long ordersWith(int v) {
            return entry(orders, v);
        }

        long sumOfNumbers() {
            long sum = 0;
            for (int v = 0; v < orders.length; v++) {
                sum += v * orders[v];
            }
            return sum;
        }
    }

    /** The ways to write a number as a sum, the greatest part first; from the number itself to all ones. */
    private static final class Partition {
        private final int[] parts = new int[MOST_THINGS];
        private int length = 1;

        Partition(int number) {
            parts[0] = number;
        }

        int firstPart() {
            return parts[0];
        }

        /** The last part above 1 gives one away; that and the ones behind it are dealt out anew. */
        boolean goOn() {
            int last = length - 1;
            while (last >= 0 && parts[last] == 1) {
                last--;
            }
            if (last < 0) {
                return false;
            }
            int rest = length - last;
            int most = parts[last] - 1;
            parts[last] = most;
            length = last + 1;
            while (rest > 0 && length < MOST_THINGS) {
                parts[length] = Math.min(rest, most);
                rest -= parts[length];
                length++;
            }
            return true;
        }

        long hookProduct() {
            long product = 1;
            for (int line = 0; line < length; line++) {
                int under = length - 1;
                for (int column = 0; column < parts[line]; column++) {
                    while (under > line && parts[under] <= column) {
                        under--;
                    }
                    product *= parts[line] - column + under - line;
                }
            }
            return product;
        }

        /** How many ways of writing an ORDER by rows of ROUNDS of these lengths tell the same ORDER. */
        long sameRounds() {
            long same = 1;
            int alike = 0;
            for (int i = 0; i < length; i++) {
                alike = i > 0 && parts[i] == parts[i - 1] ? alike + 1 : 1;
                same *= (long) parts[i] * alike;
            }
            return same;
        }

        int turns() {
            int turns = 1;
            for (int i = 0; i < length; i++) {
                turns = commonMultiple(turns, parts[i]);
            }
            return turns;
        }
    }

    /** Goes along a row and knows at each place how many rows of a kind have each THING next. */
    private static final class Walk {
        private final Tables tables;
        private final boolean[] used = new boolean[MOST_THINGS];
        private int kind;
        private int size;
        private int left;
        private int last;
        private int top;
        private int wanted;

        Walk(Tables tables) {
            this.tables = tables;
        }

        void start(int kind, int size, int wanted) {
            this.kind = kind;
            this.size = Math.min(size, MOST_THINGS);
            this.wanted = wanted;
            left = this.size;
            // As if a THING above all stood ahead of the row: nothing rises into the first one.
            last = this.size;
            top = -1;
            for (int thing = 0; thing < MOST_THINGS; thing++) {
                used[thing] = false;
            }
        }

        long waysAtStart() {
            return ways(size, size, size, wanted);
        }

        /** Writes the row that so many of the kind are ahead of; there must be so many. */
        void writeRow(long k, Order order) {
            long ahead = k;
            for (int i = 0; i < size; i++) {
                int below = 0;
                for (int thing = 0; thing < size; thing++) {
                    if (used[thing]) {
                        continue;
                    }
                    long ways = waysWith(thing, below);
                    if (ahead < ways) {
                        order.makeAt(i, thing);
                        step(thing);
                        break;
                    }
                    ahead -= ways;
                    below++;
                }
            }
            order.keepMade();
        }

        long rowsAheadOf(Order order) {
            long ahead = 0;
            for (int i = 0; i < size; i++) {
                int next = order.follow(i);
                int below = 0;
                for (int thing = 0; thing < next && thing < size; thing++) {
                    if (!used[thing]) {
                        ahead += waysWith(thing, below);
                        below++;
                    }
                }
                step(next);
            }
            return ahead;
        }

        private long waysWith(int thing, int below) {
            return ways(left - 1, below, size - 1 - Math.max(top, thing), wantedAfter(thing));
        }

        private long ways(int rest, int below, int above, int more) {
            switch (kind) {
                case RECORDS: return tables.withRecords(rest, above, more);
                case RISES: return tables.withRises(rest, below, more);
                default: return tables.ordersOf(rest);
            }
        }

        private int wantedAfter(int thing) {
            boolean counts = kind == RECORDS ? thing > top : kind == RISES && thing > last;
            return counts ? wanted - 1 : wanted;
        }

        private void step(int thing) {
            wanted = wantedAfter(thing);
            last = thing;
            top = Math.max(top, thing);
            left--;
            if (thing >= 0 && thing < MOST_THINGS) {
                used[thing] = true;
            }
        }
    }
}
