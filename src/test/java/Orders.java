import java.util.ArrayList;
import java.util.Arrays;
import java.util.Collections;
import java.util.Comparator;
import java.util.List;
import java.util.Random;
import java.util.TreeSet;

/** The document's words on ORDERS done in their plainest way, by looking at every ORDER where need be. */
final class Orders {
    static final int MOST_LISTED = 7;
    private static final List<List<int[]>> LISTED = new ArrayList<>();

    static {
        for (int n = 0; n <= MOST_LISTED; n++) {
            List<int[]> all = new ArrayList<>();
            extend(n, new ArrayList<>(), all);
            LISTED.add(all);
        }
    }

    private Orders() {
    }

    private static void extend(int n, List<Integer> begun, List<int[]> all) {
        if (begun.size() == n) {
            all.add(begun.stream().mapToInt(Integer::intValue).toArray());
            return;
        }
        for (int thing = 0; thing < n; thing++) {
            if (!begun.contains(thing)) {
                begun.add(thing);
                extend(n, begun, all);
                begun.remove(begun.size() - 1);
            }
        }
    }

    /** All ORDERS of n THINGS, as they stand in ORDER. */
    static List<int[]> all(int n) {
        return LISTED.get(n);
    }

    static int[] atRest(int n) {
        int[] a = new int[n];
        Arrays.setAll(a, i -> i);
        return a;
    }

    static int[] shuffled(int n, Random random) {
        int[] a = atRest(n);
        for (int i = n - 1; i > 0; i--) {
            int j = random.nextInt(i + 1);
            int thing = a[i];
            a[i] = a[j];
            a[j] = thing;
        }
        return a;
    }

    /** {told, more} */
    static long[] figures(int[] a) {
        long[] told = new long[2];
        for (int i = a.length - 1; i >= 0; i--) {
            told[i / 9] = told[i / 9] * 18 + a[i];
        }
        return told;
    }

    static List<List<Integer>> rounds(int[] a) {
        List<List<Integer>> rounds = new ArrayList<>();
        boolean[] seen = new boolean[a.length];
        for (int i = 0; i < a.length; i++) {
            List<Integer> round = new ArrayList<>();
            for (int j = i; !seen[j]; j = a[j]) {
                seen[j] = true;
                round.add(j);
            }
            if (!round.isEmpty()) {
                rounds.add(round);
            }
        }
        return rounds;
    }

    static boolean isRecord(int[] a, int i) {
        return Arrays.stream(a, 0, i).allMatch(ahead -> ahead < a[i]);
    }

    static int number(int[] a, int k) {
        int n = a.length;
        int found = 0;
        switch (k) {
            case 0: return rounds(a).size();
            case 1:
                for (int i = 0; i < n; i++) found += isRecord(a, i) ? 1 : 0;
                return found;
            case 2:
                for (int i = 1; i < n; i++) found += a[i - 1] < a[i] ? 1 : 0;
                return found;
            case 3:
                for (int i = 0; i < n; i++) found += a[i] == i ? 1 : 0;
                return found;
            case 4: return rounds(a).stream().mapToInt(List::size).max().getAsInt();
            case 5:
                for (int i = 0; i < n; i++) for (int j = i + 1; j < n; j++) found += a[i] > a[j] ? 1 : 0;
                return found;
            case 6:
                TreeSet<Integer> ends = new TreeSet<>();
                for (int thing : a) {
                    Integer above = ends.higher(thing);
                    if (above != null) ends.remove(above);
                    ends.add(thing);
                }
                return ends.size();
            default:
                int[] now = a.clone();
                for (int turns = 1; ; turns++) {
                    if (Arrays.equals(now, atRest(n))) return turns;
                    for (int i = 0; i < n; i++) now[i] = a[now[i]];
                }
        }
    }

    static long many(int n, int k, int v) {
        return all(n).stream().filter(a -> number(a, k) == v).count();
    }

    static long sum(int n, int k) {
        return all(n).stream().mapToLong(a -> number(a, k)).sum();
    }

    static boolean isOfKind(int[] a, int kind, int v) {
        return kind == -1 || number(a, kind) == v;
    }

    /** null: there are not so many. */
    static int[] row(int n, int kind, int v, long k) {
        return all(n).stream().filter(a -> isOfKind(a, kind, v)).skip(Math.min(k, 10000)).findFirst().orElse(null);
    }

    static long place(int[] a, int kind) {
        int v = kind == -1 ? 0 : number(a, kind);
        return all(a.length).stream().filter(b -> isOfKind(b, kind, v) && Arrays.compare(b, a) < 0).count();
    }

    static int[] madeRounds(int[] a) {
        int[] made = new int[a.length];
        int begin = 0;
        for (int i = 0; i < a.length; i++) {
            if (isRecord(a, i)) begin = i;
            boolean ends = i + 1 == a.length || isRecord(a, i + 1);
            made[a[i]] = ends ? a[begin] : a[i + 1];
        }
        return made;
    }

    /** ROUNDS told from their greatest THINGS, by these; for few THINGS looked for among all ORDERS instead. */
    static int[] madeRecords(int[] a) {
        if (a.length <= MOST_LISTED) {
            return all(a.length).stream().filter(b -> Arrays.equals(madeRounds(b), a)).findFirst().get();
        }
        List<List<Integer>> rounds = rounds(a);
        for (List<Integer> round : rounds) {
            Collections.rotate(round, -round.indexOf(Collections.max(round)));
        }
        rounds.sort(Comparator.comparing(round -> round.get(0)));
        return rounds.stream().flatMap(List::stream).mapToInt(Integer::intValue).toArray();
    }
}
