/** Counts the answers that are not as due, and ends a test with exit code 1 if there was one. */
final class Check {
    private static final int MOST_PRINTED = 50;
    private static int wrong = 0;
    private static int asked = 0;

    private Check() {
    }

    static void due(String call, long got, long want) {
        asked++;
        if (got != want) {
            wrong++;
            if (wrong <= MOST_PRINTED) {
                System.out.println(call + " answered " + got + ", due is " + want);
            }
        }
    }

    static int asked() {
        return asked;
    }

    static void row(String call, HundredBoxes boxes, int... want) {
        due(call + ": things", boxes.count(0), want.length);
        for (int i = 0; i < want.length; i++) {
            due(call + ": at(" + i + ")", boxes.at(i), want[i]);
        }
    }

    static void end(String test) {
        System.out.println(test + ": " + asked + " answers, " + wrong + " not as due");
        if (wrong != 0 || asked == 0) {
            System.exit(1);
        }
    }
}
