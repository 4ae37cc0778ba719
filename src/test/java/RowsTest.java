/** Promises 38 to 42: tell, check, keep, back, count. */
public final class RowsTest {
    private static final int BAD = OneStroke.BAD, NO = OneStroke.NO, FULL = OneStroke.FULL, NONE = OneStroke.NONE;
    private static final int MIN = Integer.MIN_VALUE, MAX = Integer.MAX_VALUE;

    public static void main(String[] args) {
        tell();
        check();
        checkByTheImage();
        checkAtTheEnd();
        checkOfThirty();
        keep();
        back();
        backWithTexts();
        whatAnImageKeepsNot();
        count();
        Due.end("RowsTest");
    }

    /** START 7 and 8; 0 was told an ORDER: COUNTS 7 0, 8 8, 9 9, 0 0. */
    private static OneStroke two() {
        OneStroke x = new OneStroke();
        x.drummer(0, 7);
        x.drummer(0, 8);
        x.order(0);
        return x;
    }

    private static void checked(String when, OneStroke x, int n, int want, int... told) {
        for (int v : told) {
            x.tell(v);
        }
        Due.due("check(" + n + ") " + when, x.check(n), want);
        Due.due("none wait " + when, x.count(7), 0);
    }

    private static void tell() {
        OneStroke x = new OneStroke();
        for (int k = 1; k <= 60; k++) {
            Due.due("tell " + k, x.tell(k % 2 == 0 ? MIN : MAX), k);
        }
        Due.due("tell of one more", x.tell(0), FULL);
        Due.due("sixty wait", x.count(7), 60);
        Due.due("check(1) without AN IMAGE", x.check(1), NO);
        Due.due("none wait", x.count(7), 0);
        Due.due("tell again", x.tell(0), 1);
    }

    private static void check() {
        OneStroke x = two();
        checked("without AN IMAGE", x, 3, NO, 0, 16);
        checked("0 without AN IMAGE", x, 0, BAD, 0, 16);
        x.keep();
        checked("right", x, 3, 0, 0, 16, 2, 18, 0, 0);
        checked("right of one", x, 1, 0, 0, 16);
        checked("wrong at 0", x, 3, 1, 1, 16, 2, 18, 0, 0);
        checked("wrong at 1", x, 3, 2, 0, 15, 2, 18, 0, 0);
        checked("wrong at 4", x, 3, 5, 0, 16, 2, 18, 1, 0);
        checked("wrong at 5", x, 3, 6, 0, 16, 2, 18, 0, 1);
        checked("the last is missing", x, 3, 6, 0, 16, 2, 18, 0);
        checked("three are missing", x, 3, 4, 0, 16, 2);
        checked("all are missing", x, 3, 1);
        checked("one too many", x, 2, 5, 0, 16, 2, 18, 0);
        checked("two too many", x, 1, 3, 0, 16, 2, 18);
        checked("0", x, 0, BAD, 0, 16);
        checked("31", x, 31, BAD, 0, 16);
        checked("the least", x, MIN, BAD, 0, 16);
    }

    private static void checkByTheImage() {
        OneStroke x = two();
        x.keep();
        x.hush();
        x.drummer(0, 5);
        x.miss(100);
        x.beats(7);
        Tapes.law(x, "hear 0");
        checked("by THE IMAGE, not as it is", x, 2, 0, 0, 16, 2, 18);
        Due.due("check changes nothing", x.count(1), 7);
        Due.due("check changes no DRUMMERS", x.count(0), 3);
        x.back();
        checked("by THE IMAGE again", x, 2, 0, 0, 16, 2, 18);
        Due.due("nor THE IMAGE", x.behind(0, 0, 0), 7);
        x.keep();
        x.beats(2);
        x.keep();
        checked("by another IMAGE", x, 1, 0, 0, 0);
        Tapes.law(x, "hear 1");
        x.beats(1);
        x.keep();
        checked("by TEXTS of THE IMAGE", x, 2, 0, 0, 15, 1, 17);
    }

    private static void checkAtTheEnd() {
        OneStroke x = new OneStroke();
        x.drummer(0, 1);
        for (int k = 0; k < 100; k++) {
            x.beats(k < 99 ? 100 : 97);
        }
        Due.due("THE BEAT", x.count(1), 9997);
        x.set(0, 2, 8);
        x.keep();
        checked("fewer, up to 9999", x, 30, 0, 1, 9, 0, 0);
        checked("one too many of fewer", x, 30, 5, 1, 9, 0, 0, 0);
        checked("one of them is missing", x, 30, 4, 1, 9, 0);
        x.beats(2);
        x.keep();
        checked("none are due", x, 5, 0);
        checked("one is too many", x, 5, 1, 0);
    }

    private static void checkOfThirty() {
        OneStroke x = new OneStroke();
        x.deal(10);
        x.miss(25);
        x.order(4);
        x.keep();
        int[] told = new int[60];
        for (int k = 0; k < 30; k++) {
            told[2 * k] = x.beats(1);
            told[2 * k + 1] = x.count(5);
        }
        checked("of thirty", x, 30, 0, told);
        told[59]++;
        checked("of thirty, the last wrong", x, 30, 60, told);
    }

    private static void keep() {
        OneStroke x = new OneStroke();
        Due.due("keep() of none", x.keep(), 0);
        Due.due("back() to none", x.back(), 0);
        x.drummer(0, 1);
        x.drummer(0, 2);
        Due.due("keep() of two", x.keep(), 2);
        x.deal(8);
        Due.due("ten", x.count(0), 10);
        Due.due("back() to two", x.back(), 2);
        Due.due("two", x.count(0), 2);
        Due.due("one that comes then is new", x.drummer(3, 4), 2);
        Due.due("its KIND", x.told(2, 0), 3);
        Due.due("its START", x.told(2, 1), 4);
        x.keep();
        x.drummer(0, 8);
        x.set(3, 3, 2);
        x.order(3);
        x.beats(3);
        x.back();
        x.drummer(0, 8);
        int[] fresh = {0, 8, 0, 0, 0, 0, NONE, 1};
        for (int what = 0; what < 8; what++) {
            Due.due("told(3, " + what + ") of a new one", x.told(3, what), fresh[what]);
        }
    }

    private static void back() {
        OneStroke x = new OneStroke();
        Due.due("back() without AN IMAGE", x.back(), NO);
        x.drummer(1, 8);
        x.drummer(5, 2);
        x.set(0, 3, 2);
        x.miss(7);
        x.seed(99);
        x.order(0);
        x.beats(2);
        int[] kept = everything(x);
        Due.due("keep()", x.keep(), 2);
        for (int time = 0; time < 2; time++) {
            x.turns(0, 3);
            x.set(0, 1, 5);
            x.set(1, 3, 3);
            x.miss(50);
            x.deal(3);
            x.beats(30);
            Due.due("back()", x.back(), 2);
            int[] then = everything(x);
            for (int k = 0; k < kept.length; k++) {
                Due.due("as THE IMAGE: " + k, then[k], kept[k]);
            }
        }
        x.hush();
        Due.due("changes do not reach THE IMAGE", x.back(), 2);
        Due.due("COUNT is back", x.told(0, 2), kept[10 + 2]);
    }

    private static int[] everything(OneStroke x) {
        int[] found = new int[10 + 12 * 2];
        for (int what = 0; what < 10; what++) {
            found[what] = x.count(what);
        }
        for (int k = 0; k < 2; k++) {
            for (int what = 0; what < 12; what++) {
                found[10 + 12 * k + what] = x.told(k, what);
            }
        }
        return found;
    }

    private static void backWithTexts() {
        OneStroke x = new OneStroke();
        Tapes.law(x, "fine 5");
        x.keep();
        Tapes.law(x, "fine 6");
        Tapes.law(x, "hear 1");
        x.back();
        Due.due("TEXTS go back", x.count(6), 1);
        Due.due("fine goes back", x.fine(), 5);
        Due.due("why(0) goes back", x.why(0), NONE);
        Due.due("why(2) goes back", x.why(2), 0);
        Due.due("textTold(1, 0)", x.textTold(1, 0), BAD);
        Due.due("the next TEXT", Tapes.law(x, "start 2"), 1);
        Due.due("its KEY", x.textTold(1, 0), 1);
        x.keep();
        Tapes.law(x, "fine 8");
        x.back();
        Due.due("TEXTS of another IMAGE", x.count(6), 2);
        Due.due("fine of another IMAGE", x.fine(), 5);
    }

    private static void whatAnImageKeepsNot() {
        OneStroke x = new OneStroke();
        x.drummer(0, 4);
        x.keep();
        x.sheet(0, 0, 3);
        x.lay(0, 3, 5);
        x.tell(1);
        x.feed(0, 0, 0);
        Due.due("back()", x.back(), 1);
        Due.due("SHEETS stay", x.mark(0, 2, 1), 1);
        Due.due("SLOTS stay", x.rest(0, 10), 5);
        Due.due("numbers that wait stay", x.count(7), 1);
        Due.due("THE TAPE stays", x.count(8), 12);
    }

    private static void count() {
        OneStroke x = two();
        x.drummer(0, 1);
        x.miss(0);
        x.seed(1);
        x.beats(2);
        Tapes.law(x, "fine 1");
        Tapes.law(x, "hear 1");
        x.tell(9);
        x.tell(9);
        x.tell(9);
        x.feed(0, 0, 0);
        x.trim(7);
        x.miss(33);
        int z = 1;
        for (int k = 0; k < 3; k++) {
            z = z * 1103515245 + 12345;
        }
        int[] want = {3, 2, 33, 2, 3, 19, 2, 3, 7, z};
        for (int what = 0; what < 10; what++) {
            Due.due("count(" + what + ")", x.count(what), want[what]);
        }
        Due.due("count(10)", x.count(10), BAD);
        Due.due("count(-1)", x.count(-1), BAD);
        Due.due("count(MIN)", x.count(MIN), BAD);
        x.miss(0);
        x.beats(1);
        Due.due("how many have a COUNT above 0", x.count(4), 1);
    }
}
