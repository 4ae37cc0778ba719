/** Promises 1 to 9: a new object, drummer, told, as, turns, set, miss, deal, seed. */
public final class LineTest {
    private static final int BAD = OneStroke.BAD, NO = OneStroke.NO, FULL = OneStroke.FULL, NONE = OneStroke.NONE,
            NOTHING = OneStroke.NOTHING, KIND = OneStroke.KIND;
    private static final int MIN = Integer.MIN_VALUE, MAX = Integer.MAX_VALUE;

    public static void main(String[] args) {
        newObject();
        drummer();
        toldAtFirst();
        toldOfKinds();
        hears();
        hearsByText();
        wakesByText();
        as();
        turns();
        set();
        miss();
        deal();
        seed();
        Due.end("LineTest");
    }

    /** Six DRUMMERS, number k of KIND k, all with one START. */
    private static OneStroke kinds(int start) {
        OneStroke x = new OneStroke();
        for (int k = 0; k < 6; k++) {
            Due.due("drummer(" + k + ", " + start + ")", x.drummer(k, start), k);
        }
        return x;
    }

    private static void each(OneStroke x, int what, int... want) {
        for (int k = 0; k < want.length; k++) {
            Due.due("told(" + k + ", " + what + ")", x.told(k, what), want[k]);
        }
    }

    private static void newObject() {
        OneStroke x = new OneStroke();
        for (int what = 0; what <= 8; what++) {
            Due.due("count(" + what + ") at first", x.count(what), 0);
        }
        Due.due("z at first", x.count(9), 1);
        Due.due("told(0, 0) without DRUMMERS", x.told(0, 0), BAD);
        for (int k = 0; k < 4; k++) {
            Due.due("SHEET " + k + " at first", x.pour(k), NOTHING);
        }
        for (int k = 0; k < 5; k++) {
            Due.due("SLOT " + k + " at first", x.rest(k, 1), NOTHING);
        }
        for (int k = 0; k < 3; k++) {
            Due.due("why(" + k + ") at first", x.why(k), NONE);
        }
        Due.due("back() at first", x.back(), NO);
        Due.due("beats(5) without DRUMMERS", x.beats(5), 0);
        Due.due("THE BEAT goes on without DRUMMERS", x.count(1), 5);
    }

    private static void drummer() {
        OneStroke x = new OneStroke();
        int[][] wrong = {{-1, 1}, {6, 1}, {0, 0}, {0, 10}, {MIN, 5}, {MAX, 5}, {3, MIN}, {3, MAX}};
        for (int[] one : wrong) {
            Due.due("drummer(" + one[0] + ", " + one[1] + ")", x.drummer(one[0], one[1]), BAD);
        }
        Due.due("none came", x.count(0), 0);
        for (int k = 0; k < 10; k++) {
            Due.due("drummer " + k, x.drummer(k % 6, 1 + k % 9), k);
        }
        Due.due("the eleventh", x.drummer(0, 1), FULL);
        Due.due("a wrong eleventh", x.drummer(6, 1), BAD);
        Due.due("ten came", x.count(0), 10);
        Due.due("KIND of the last", x.told(9, 0), 3);
        Due.due("START of the last", x.told(9, 1), 1);
        Due.due("START of 8", x.told(8, 1), 9);
    }

    private static void toldAtFirst() {
        OneStroke x = kinds(5);
        each(x, 0, 0, 1, 2, 3, 4, 5);
        each(x, 1, 5, 5, 5, 5, 5, 5);
        each(x, 2, 0, 0, 0, 0, 0, 0);
        each(x, 3, 0, 0, 0, 0, 0, 0);
        each(x, 4, 0, 0, 0, 0, 0, 0);
        each(x, 5, 0, 0, 0, 0, 0, 0);
        each(x, 6, NONE, NONE, NONE, NONE, NONE, NONE);
        each(x, 7, 1, 1, 1, 1, 1, 1);
        each(x, 8, 0, 0, 0, 0, 0, 0);
        each(x, 10, 0, 0, 0, 0, 0, 0);
        Due.due("told(0, -1)", x.told(0, -1), BAD);
        Due.due("told(0, 12)", x.told(0, 12), BAD);
        Due.due("told(0, MAX)", x.told(0, MAX), BAD);
        Due.due("told(-1, 0)", x.told(-1, 0), BAD);
        Due.due("told(6, 0)", x.told(6, 0), BAD);
        Due.due("told(MIN, 0)", x.told(MIN, 0), BAD);
        x.set(0, 2, 7);
        x.beats(2);
        each(x, 2, 9);
        each(x, 3, 8);
        each(x, 4, 7);
        each(x, 5, 1);
        each(x, 6, 2);
    }

    private static void toldOfKinds() {
        each(kinds(5), 9, 5, 5, 6, 4, 6, 5);
        each(kinds(1), 9, 1, 1, 2, 1, 2, 1);
        each(kinds(9), 9, 9, 9, 9, 8, 9, 9);
        each(kinds(8), 9, 8, 8, 9, 7, 9, 8);
        each(kinds(5), 11, 5, 9, 15, 18, 10, 6);
        each(kinds(1), 11, 1, 5, 19, 10, 14, 6);
        OneStroke x = kinds(5);
        int[][] steps = {{1, 2, 2, 2, 2, 2, 2}, {7, 8, 8, 8, 8, 8, 8}, {8, 9, 9, 9, 9, 0, 9}, {9, 0, 0, 0, 0, 0, 0}};
        for (int[] one : steps) {
            setAll(x, one[0]);
            each(x, 10, one[1], one[2], one[3], one[4], one[5], one[6]);
        }
        x.beats(3);
        setAll(x, 8);
        each(x, 10, 9, 8, 9, 8, 0, 9);
        setAll(x, 9);
        each(x, 10, 0, 9, 0, 9, 0, 0);
        setAll(x, 0);
        each(x, 10, 0, 0, 0, 0, 0, 0);
        x.beats(1);
        setAll(x, 3);
        each(x, 10, 4, 4, 4, 4, 4, 4);
    }

    private static void setAll(OneStroke x, int count) {
        for (int k = 0; k < 6; k++) {
            x.set(k, 2, count);
        }
    }

    private static void hears() {
        OneStroke x = kinds(5);
        x.set(4, 2, 3);
        each(x, 8, 0, 0, 0, 1, 0, 1);
        x.set(4, 2, 0);
        x.set(0, 2, 1);
        each(x, 8, 0, 1, 0, 0, 0, 0);
        x.set(0, 2, 0);
        x.set(5, 2, 9);
        each(x, 8, 0, 0, 0, 0, 1, 0);
        x.turns(4, 5);
        Due.due("DEAF does not hear the greater number", x.told(4, 8), 0);
        x.set(3, 2, 1);
        Due.due("DEAF hears the lesser number", x.told(4, 8), 1);
        x = new OneStroke();
        x.drummer(0, 1);
        x.drummer(0, 1);
        x.drummer(0, 1);
        x.set(0, 3, 2);
        x.set(1, 3, 3);
        x.set(1, 2, 4);
        each(x, 8, 0, 0, 0);
        x.miss(100);
        x.beats(1);
        each(x, 8, 1, 0, 0);
        x.set(1, 2, 0);
        each(x, 8, 1, 0, 0);
        x.beats(1);
        each(x, 8, 0, 0, 1);
        x.beats(1);
        each(x, 8, 0, 1, 0);
    }

    private static void hearsByText() {
        OneStroke x = kinds(5);
        Tapes.law(x, "hear n=2");
        each(x, 8, 0, 0, 1, 0, 0, 0);
        Tapes.law(x, "hear 0-1");
        each(x, 8, 1, 1, 1, 1, 1, 0);
        x.set(2, 2, 7);
        Tapes.law(x, "hear l=7");
        each(x, 8, 0, 0, 0, 1, 0, 0);
        Tapes.law(x, "hear r=7");
        each(x, 8, 0, 1, 0, 0, 0, 0);
        Tapes.law(x, "hear l-7");
        x.turns(3, 5);
        each(x, 8, 1, 1, 1, 1, 1, 0);
    }

    private static void wakesByText() {
        OneStroke x = kinds(4);
        Tapes.law(x, "start s+n");
        each(x, 9, 4, 5, 7, 6, 9, 9);
        Tapes.law(x, "start 100");
        each(x, 9, 9, 9, 9, 8, 9, 9);
        Tapes.law(x, "start 0-100");
        each(x, 9, 1, 1, 2, 1, 2, 1);
        Tapes.law(x, "start b");
        x.beats(6);
        each(x, 9, 6, 6, 7, 5, 7, 6);
    }

    private static void as() {
        OneStroke x = kinds(7);
        String[] under = {"100000", "110000", "101000", "110100", "101010", "100001"};
        for (int k = 0; k < 6; k++) {
            for (int kind = 0; kind < 6; kind++) {
                Due.due("as(" + k + ", " + kind + ")", x.as(k, kind), under[k].charAt(kind) == '1' ? 7 : KIND);
            }
        }
        Due.due("as(6, 0)", x.as(6, 0), BAD);
        Due.due("as(-1, 0)", x.as(-1, 0), BAD);
        Due.due("as(0, 6)", x.as(0, 6), BAD);
        Due.due("as(0, -1)", x.as(0, -1), BAD);
        Due.due("as(MIN, MAX)", x.as(MIN, MAX), BAD);
    }

    private static void turns() {
        OneStroke x = kinds(7);
        x.set(3, 2, 4);
        Due.due("turns(3, 5)", x.turns(3, 5), 3);
        Due.due("KIND then", x.told(3, 0), 5);
        Due.due("START stays", x.told(3, 1), 7);
        Due.due("COUNT stays", x.told(3, 2), 4);
        Due.due("WORTH then", x.told(3, 11), 6);
        Due.due("turns(3, 0)", x.turns(3, 0), 5);
        Due.due("turns(3, 0) again", x.turns(3, 0), 0);
        Due.due("turns(3, 6)", x.turns(3, 6), BAD);
        Due.due("turns(3, -1)", x.turns(3, -1), BAD);
        Due.due("turns(6, 0)", x.turns(6, 0), BAD);
        Due.due("turns(-1, 0)", x.turns(-1, 0), BAD);
        each(x, 0, 0, 1, 2, 0, 4, 5);
    }

    private static void set() {
        OneStroke x = kinds(7);
        int[][] runs = {{1, 9, 7}, {1, 1, 9}, {1, 0, BAD}, {1, 10, BAD}, {1, 2, 1}, {2, 9, 0}, {2, 0, 9}, {2, 10, BAD},
            {2, -1, BAD}, {2, 5, 0}, {3, 3, 1}, {3, 1, 3}, {3, 0, BAD}, {3, 4, BAD}, {3, 2, 1}, {0, 1, BAD}, {4, 1, BAD},
            {MIN, 1, BAD}, {1, MAX, BAD}};
        for (int[] one : runs) {
            Due.due("set(1, " + one[0] + ", " + one[1] + ")", x.set(1, one[0], one[1]), one[2]);
        }
        Due.due("set(6, 1, 1)", x.set(6, 1, 1), BAD);
        Due.due("set(-1, 1, 1)", x.set(-1, 1, 1), BAD);
        each(x, 1, 7, 2, 7);
        each(x, 2, 0, 5, 0);
        each(x, 7, 1, 2, 1);
        each(x, 3, 0, 0, 0);
        x.set(1, 2, 9);
        Due.due("no stroke by set", x.told(1, 5), 0);
    }

    private static void miss() {
        OneStroke x = new OneStroke();
        x.drummer(0, 1);
        Due.due("miss(100)", x.miss(100), 0);
        Due.due("miss(101)", x.miss(101), BAD);
        Due.due("miss(-1)", x.miss(-1), BAD);
        Due.due("MISS then", x.count(2), 100);
        x.set(0, 2, 5);
        x.beats(20);
        Due.due("with MISS 100 none goes on", x.told(0, 2), 5);
        Due.due("miss(0)", x.miss(0), 100);
        x.beats(1);
        Due.due("with MISS 0 all go on", x.told(0, 2), 6);
        int z = 4711;
        x.seed(z);
        x.miss(40);
        x.set(0, 2, 1);
        int count = 1;
        for (int k = 0; k < 7; k++) {
            z = z * 1103515245 + 12345;
            count += (z >>> 8) % 100 < 40 ? 0 : 1;
            x.beats(1);
            Due.due("COUNT by lot", x.told(0, 2), count);
            Due.due("z by lot", x.count(9), z);
        }
        lotsAtTheEdge();
    }

    /** MISS as great as the rest of the draw does not keep one; 1 more does. */
    private static void lotsAtTheEdge() {
        OneStroke x = new OneStroke();
        x.drummer(0, 1);
        int rest = (1103515245 + 12345 >>> 8) % 100;
        x.set(0, 2, 1);
        x.miss(rest);
        Due.due("MISS is the rest", x.behind(0, 1, 0), 2);
        x.miss(rest + 1);
        Due.due("MISS is above the rest", x.behind(0, 1, 0), 1);
    }

    private static void deal() {
        OneStroke x = new OneStroke();
        Due.due("deal(0)", x.deal(0), BAD);
        Due.due("deal(11)", x.deal(11), BAD);
        Due.due("deal(-1)", x.deal(-1), BAD);
        x.drummer(0, 3);
        x.seed(-77);
        Due.due("deal(4)", x.deal(4), 4);
        int z = -77;
        for (int k = 1; k < 5; k++) {
            z = z * 1103515245 + 12345;
            Due.due("KIND by lot", x.told(k, 0), (z >>> 8) % 6);
            z = z * 1103515245 + 12345;
            Due.due("START by lot", x.told(k, 1), 1 + (z >>> 8) % 9);
            Due.due("APART of one by lot", x.told(k, 7), 1);
        }
        Due.due("z by lot", x.count(9), z);
        Due.due("deal(10)", x.deal(10), 5);
        for (int k = 0; k < 10; k++) {
            z = z * 1103515245 + 12345;
        }
        Due.due("no draws for others", x.count(9), z);
        Due.due("deal(1) without room", x.deal(1), 0);
        Due.due("deal(11) without room", x.deal(11), BAD);
        Due.due("no draws without room", x.count(9), z);
        Due.due("ten are there", x.count(0), 10);
    }

    private static void seed() {
        OneStroke x = new OneStroke();
        Due.due("seed(MIN)", x.seed(MIN), 1);
        Due.due("seed(0)", x.seed(0), MIN);
        Due.due("seed(12)", x.seed(12), 0);
        Due.due("z then", x.count(9), 12);
    }
}
