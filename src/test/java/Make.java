/** Objects and rows that many tests begin with. */
final class Make {
    private Make() {
    }

    static HundredBoxes of(int n) {
        HundredBoxes x = new HundredBoxes();
        x.things(n);
        return x;
    }

    static int[] turnedAbout(int n) {
        int[] a = new int[n];
        for (int i = 0; i < n; i++) a[i] = n - 1 - i;
        return a;
    }

    /** One ROUND: each to the next, the last to the first. */
    static int[] oneOn(int n) {
        int[] a = new int[n];
        for (int i = 0; i < n; i++) a[i] = (i + 1) % n;
        return a;
    }

    static int tell(HundredBoxes x, int... a) {
        long[] told = Orders.figures(a);
        return x.order(told[0], told[1]);
    }
}
