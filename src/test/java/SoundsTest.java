/** Promises 19 to 23: far, reach, edge, miscounted, fine. */
public final class SoundsTest {
    private static final int BAD = OneStroke.BAD, NONE = OneStroke.NONE, NOTHING = OneStroke.NOTHING;
    private static final int MIN = Integer.MIN_VALUE, MAX = Integer.MAX_VALUE;

    public static void main(String[] args) {
        far();
        reach();
        edge();
        miscounted();
        miscountedOfNumbers();
        miscountedRefused();
        fine();
        Due.end("SoundsTest");
    }

    private static OneStroke line(int... starts) {
        OneStroke x = new OneStroke();
        for (int start : starts) {
            x.drummer(0, start);
        }
        return x;
    }

    /** Five DRUMMERS, APART 1, 3, 2, 1; APART of the last one, 3, is to none. */
    private static OneStroke apart() {
        OneStroke x = line(1, 1, 1, 1, 1);
        x.set(1, 3, 3);
        x.set(2, 3, 2);
        x.set(4, 3, 3);
        return x;
    }

    private static void far() {
        OneStroke x = apart();
        int[][] want = {{0, 1, 4, 6, 7}, {1, 0, 3, 5, 6}, {4, 3, 0, 2, 3}, {6, 5, 2, 0, 1}, {7, 6, 3, 1, 0}};
        for (int one = 0; one < 5; one++) {
            for (int other = 0; other < 5; other++) {
                Due.due("far(" + one + ", " + other + ")", x.far(one, other), want[one][other]);
            }
        }
        Due.due("far(0, 5)", x.far(0, 5), BAD);
        Due.due("far(5, 0)", x.far(5, 0), BAD);
        Due.due("far(-1, 0)", x.far(-1, 0), BAD);
        Due.due("far(0, -1)", x.far(0, -1), BAD);
        Due.due("far(MAX, MIN)", x.far(MAX, MIN), BAD);
    }

    private static void reach() {
        OneStroke x = apart();
        Due.due("reach(2, 0)", x.reach(2, 0), 0b00100);
        Due.due("reach(2, 1)", x.reach(2, 1), 0b00100);
        Due.due("reach(2, 2)", x.reach(2, 2), 0b01100);
        Due.due("reach(2, 3)", x.reach(2, 3), 0b11110);
        Due.due("reach(2, 4)", x.reach(2, 4), 0b11111);
        Due.due("reach(4, 1)", x.reach(4, 1), 0b11000);
        Due.due("reach(0, 30)", x.reach(0, 30), 0b11111);
        Due.due("reach(0, 31)", x.reach(0, 31), BAD);
        Due.due("reach(0, -1)", x.reach(0, -1), BAD);
        Due.due("reach(5, 0)", x.reach(5, 0), BAD);
        Due.due("reach(-1, 0)", x.reach(-1, 0), BAD);
        x = new OneStroke();
        x.deal(10);
        Due.due("reach of ten", x.reach(9, 9), 1023);
    }

    private static void edge() {
        OneStroke x = apart();
        int[] want = {7, 6, 4, 6, 7};
        for (int k = 0; k < 5; k++) {
            Due.due("edge(" + k + ")", x.edge(k), want[k]);
        }
        Due.due("edge(5)", x.edge(5), BAD);
        Due.due("edge(-1)", x.edge(-1), BAD);
        Due.due("edge(0) of one", line(1).edge(0), 0);
        Due.due("edge(0) of none", new OneStroke().edge(0), BAD);
    }

    private static OneStroke told(OneStroke x, int sort, int... places) {
        x.sheet(0, sort, places.length);
        for (int k = 0; k < places.length; k++) {
            x.mark(0, k, places[k]);
        }
        return x;
    }

    private static void found(String when, OneStroke x, int n, int drummer, int differences) {
        Due.due("miscounted(0, " + n + ", 0) " + when, x.miscounted(0, n, 0), drummer);
        Due.due("miscounted(0, " + n + ", 1) " + when, x.miscounted(0, n, 1), differences);
    }

    /** First BEATS: with START of 0 one more 8, 9; with that of 1, 8, 8. */
    private static void miscounted() {
        OneStroke x = line(1, 1);
        x.order(0);
        found("8, 8", told(x, 0, 8, 8), 20, 1, 0);
        found("8, 9", told(x, 0, 8, 9), 20, 0, 0);
        found("10, 7", told(x, 0, 10, 7), 20, 1, 3);
        found("-1, 9", told(x, 0, -1, 9), 20, 0, 9);
        found("of several the least", told(x, 0, 6), 20, 0, 2);
        found("no places", told(x, 0), 20, 0, 0);
        found("none strikes in 7", told(x, 0, 3, 4), 7, 0, 7);
        found("one strikes in 8", told(x, 0, 8, 0), 8, 0, 0);
        x.beats(3);
        found("BEATS from now on", told(x, 0, 5, 6), 60, 0, 0);
        x.beats(8);
        x.hush();
        x.set(1, 2, 8);
        Due.due("STROKES there were do not count", x.count(3), 2);
        found("9, 1", told(x, 1, 9, 1), 30, 1, 0);
        found("8, 1", told(x, 1, 8, 1), 30, 0, 0);
        x.set(1, 2, 0);
        found("none strikes, behind some BEATS", told(x, 0, 3, 4), 30, 0, 7);
        x = line(8, 1);
        x.order(0);
        found("one strikes with BEAT 1", told(x, 0, 1), 30, 0, 0);
        x = line(1, 9);
        x.order(0);
        found("START 9 becomes 1", told(x, 0, 8, 9), 20, 1, 0);
    }

    private static void miscountedOfNumbers() {
        OneStroke x = line(1, 1);
        x.order(0);
        found("NO NUMBER does not count", told(x, 1, 8, NONE), 20, 0, 0);
        found("floats", told(x, 1, 99999, -99999), 20, 1, 99991 + 100007);
        // Who is not there does not strike, so that its first BEAT is 0.
        found("places beyond all DRUMMERS", told(x, 0, 8, 8, 5, -2), 20, 1, 7);
        x = line(8, 8);
        x.keep();
        x.drummer(0, 8);
        x.order(0);
        x.miscounted(0, 20, 0);
        x.back();
        x.order(0);
        found("places of those who are gone", told(x, 0, 1, 2, 5), 20, 0, 5);
        x = new OneStroke();
        x.deal(10);
        x.sheet(0, 0, 24);
        x.mark(0, 10, 3);
        x.mark(0, 23, 4);
        found("24 places", x, 20, 0, 7);
        x = line(1, 1);
        x.order(0);
        found("NO NUMBER beyond all DRUMMERS", told(x, 1, 8, 8, NONE, 0), 20, 1, 0);
    }

    private static void miscountedRefused() {
        OneStroke x = new OneStroke();
        Due.due("a MISSING SHEET", x.miscounted(0, 5, 0), NOTHING);
        Due.due("a MISSING SHEET, n 0", x.miscounted(0, 0, 0), BAD);
        x.sheet(0, 0, 3);
        Due.due("no DRUMMERS", x.miscounted(0, 5, 0), NONE);
        Due.due("no DRUMMERS, what 1", x.miscounted(0, 5, 1), NONE);
        x.drummer(0, 1);
        Due.due("miscounted(0, 1, 0)", x.miscounted(0, 1, 0), 0);
        Due.due("miscounted(0, 60, 0)", x.miscounted(0, 60, 0), 0);
        int[][] wrong = {{-1, 5, 0}, {4, 5, 0}, {0, 0, 0}, {0, 61, 0}, {0, 5, -1}, {0, 5, 2}, {MIN, MIN, MIN}};
        for (int[] one : wrong) {
            Due.due("miscounted" + java.util.Arrays.toString(one), x.miscounted(one[0], one[1], one[2]), BAD);
        }
        Due.due("another MISSING SHEET", x.miscounted(3, 5, 0), NOTHING);
    }

    private static void fine() {
        OneStroke x = line(8, 8);
        Due.due("fine() at first", x.fine(), 0);
        x.order(0);
        x.beats(3);
        Due.due("fine() without a TEXT", x.fine(), 2);
        Tapes.law(x, "fine m*100+b");
        Due.due("fine() by TEXT", x.fine(), 203);
        Tapes.law(x, "fine 0-m");
        Due.due("fine() below 0", x.fine(), -2);
        Tapes.law(x, "start 5");
        Due.due("fine() by the TEXT of its KEY", x.fine(), -2);
    }
}
