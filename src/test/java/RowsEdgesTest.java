/** The edges of promises 38 to 42, words by words: tell, check, keep, back, count. */
public final class RowsEdgesTest {
    private static final int BAD = OneStroke.BAD, NO = OneStroke.NO, FULL = OneStroke.FULL, NONE = OneStroke.NONE;

    public static void main(String[] args) {
        tell();
        check();
        checkOfThirty();
        checkTheFirst();
        checkUpTo9999();
        checkByTheImage();
        keep();
        back();
        backOfEverything();
        count();
        countOfAll();
        Run.end("RowsEdgesTest", 38, 42);
    }

    private static Run told(Run run, int... numbers) {
        for (int v : numbers) {
            run.calls("tell(" + v + ")");
        }
        return run;
    }

    /** START 7 and 8; 0 was told an ORDER: COUNTS 7 0, 8 8, 9 9, 0 0; and AN IMAGE of it. */
    private static Run two(int promise, String words) {
        return Run.of(promise, words).calls("drummer(0, 7)", "drummer(0, 8)", "order(0)", "keep()");
    }

    /** By AN IMAGE without DRUMMERS only zeros are due, so that any other number would be seen. */
    private static void tell() {
        String words = "One more number waits: how many. FULL: 60 wait.";
        Run run = Run.of(38, words).calls("keep()").due("count(7)", 0);
        for (int k = 1; k <= 60; k++) {
            run.due("tell(0)", k).due("count(7)", k);
        }
        run.stays("tell(1)", FULL).stays("tell(MIN)", FULL).due("count(7)", 60).due("check(30)", 0).due("tell(5)", 1)
                .due("count(7)", 1);
        Run.of(38, words).due("tell(MIN)", 1).due("tell(MAX)", 2).due("tell(BAD)", 3).due("tell(NONE)", 4)
                .due("count(7)", 4);
        Run last = Run.of(38, words).calls("keep()").times(59, "tell(0)");
        last.due("tell(1)", 60).stays("tell(0)", FULL).due("check(30)", 60);
    }

    private static void check() {
        String words = "BAD; NO: there is no IMAGE.";
        String used = "The numbers that wait (none do then, whatever is answered)";
        for (String n : new String[] {"0", "31", "-1", "MIN", "MAX"}) {
            Run.rich(39, used).usesNumbers("check(" + n + ")", BAD).usesNumbers("check(" + n + ")", BAD);
            told(Run.of(39, words), 1, 2).usesNumbers("check(" + n + ")", BAD);
        }
        told(Run.of(39, words), 1, 2).usesNumbers("check(1)", NO).usesNumbers("check(30)", NO);
        told(Run.of(39, words).calls("drummer(0, 8)", "order(0)"), 1, 9).usesNumbers("check(1)", NO);
        Run.rich(39, used).usesNumbers("check(3)", 0);
        Run.rich(39, used).usesNumbers("check(1)", 3);
        Run.rich(39, used).usesNumbers("check(30)", 7);
        Run.rich(39, used).calls("tell(77)").usesNumbers("check(30)", 7);
    }

    private static void checkOfThirty() {
        String words = "THE BEATS TOLD of n (1 .. 30; fewer, if THE BEAT would be above 9999), two by two: 0";
        Run.of(39, words).calls("keep()").times(60, "tell(0)").due("check(30)", 0);
        Run.of(39, words).calls("keep()").times(59, "tell(0)").due("check(30)", 60);
        Run.of(39, words).calls("keep()").times(60, "tell(0)").due("check(29)", 59);
        Run.of(39, words).calls("keep()").times(2, "tell(0)").due("check(1)", 0);
        Run.of(39, words).calls("keep()").times(2, "tell(0)").due("check(2)", 3);
        Run.of(39, words).calls("keep()").due("check(1)", 1).due("check(30)", 1).due("check(0)", BAD)
                .due("check(31)", BAD);
        Run by = Run.of(39, words).calls("deal(10)", "miss(25)", "order(4)", "keep()");
        OneStroke ahead = new OneStroke();
        ahead.deal(10);
        ahead.miss(25);
        ahead.order(4);
        for (int k = 0; k < 30; k++) {
            told(by, ahead.beats(1), ahead.count(5));
        }
        by.due("check(30)", 0);
    }

    private static void checkTheFirst() {
        String words = "else 1 and how many stand right ahead of the first that is not (or is missing, or one too"
                + " many).";
        int[] right = {0, 16, 2, 18, 0, 0};
        for (int wrong = 0; wrong < 6; wrong++) {
            int[] numbers = right.clone();
            numbers[wrong]++;
            told(two(39, words), numbers).due("check(3)", wrong + 1);
            numbers[wrong] -= 2;
            told(two(39, words), numbers).due("check(3)", wrong + 1);
            told(two(39, words), java.util.Arrays.copyOf(right, wrong)).due("check(3)", wrong + 1);
        }
        told(two(39, words), right).due("check(3)", 0);
        told(two(39, words), right).due("check(2)", 5);
        told(two(39, words), right).due("check(1)", 3);
        told(two(39, words), right).calls("tell(0)").due("check(3)", 7);
        told(two(39, words), right).calls("tell(0)").due("check(4)", 8);
        told(two(39, words), 1, 15, 2, 18, 0, 0).due("check(3)", 1);
        told(two(39, words), 0, 16, 2, 18, 0, 1, 5, 5).due("check(3)", 6);
    }

    private static void checkUpTo9999() {
        String words = "fewer, if THE BEAT would be above 9999";
        Run at = Run.of(39, words).toBeat(9999).calls("keep()");
        at.due("check(1)", 0).due("check(30)", 0).calls("tell(0)").due("check(1)", 1).calls("tell(0)")
                .due("check(30)", 1).due("check(0)", BAD).due("check(31)", BAD);
        told(Run.of(39, words).calls("drummer(0, 1)").toBeat(9998).calls("set(0, 2, 8)", "keep()"), 1, 9)
                .due("check(2)", 0);
        told(Run.of(39, words).calls("drummer(0, 1)").toBeat(9998).calls("set(0, 2, 8)", "keep()"), 1, 9, 0, 0)
                .due("check(2)", 3);
        told(Run.of(39, words).calls("drummer(0, 1)").toBeat(9998).calls("set(0, 2, 8)", "keep()"), 1)
                .due("check(30)", 2);
        Run.of(39, words).toBeat(9969).calls("keep()").times(60, "tell(0)").due("check(30)", 0);
        Run.of(39, words).toBeat(9970).calls("keep()").times(60, "tell(0)").due("check(30)", 59).times(58, "tell(0)")
                .due("check(30)", 0);
        told(Run.of(39, words).calls("keep()").toBeat(9999), 0, 0).due("check(1)", 0);
        told(Run.of(39, words).toBeat(9999).calls("keep()"), 0, 0).due("check(1)", 1);
    }

    private static void checkByTheImage() {
        String words = "THE BEATS TOLD: of n BEATS, one behind the other, by THE IMAGE: how many strike; COUNTS of"
                + " all, together, behind each.";
        told(two(39, words).calls("hush()", "drummer(0, 5)", "miss(100)", "beats(7)").law("hear 0"), 0, 16, 2, 18)
                .usesNumbers("check(2)", 0);
        told(two(39, words), 0, 16).due("check(1)", 0).due("told(0, 2)", 7).due("count(1)", 0)
                .due("behind(0, 0, 0)", 7);
        Run again = two(39, words);
        told(again, 0, 16).due("check(1)", 0);
        told(again, 0, 16).due("check(1)", 0);
        told(again.calls("beats(1)"), 0, 16).due("check(1)", 0);
        told(again.calls("keep()"), 2, 18).due("check(1)", 0);
        told(again, 0, 16).due("check(1)", 1);
    }

    private static void keep() {
        String words = "AN IMAGE is kept: how many DRUMMERS.";
        Run.of(40, words).due("keep()", 0).due("back()", 0).stays("back()", 0);
        Run.of(40, words).calls("drummer(0, 1)").due("keep()", 1);
        Run.of(40, words).calls("deal(10)").due("keep()", 10).stays("back()", 10);
        Run.of(40, words).calls("keep()", "drummer(0, 1)").due("keep()", 1).calls("deal(9)").due("back()", 1)
                .due("count(0)", 1);
        Run.rich(40, words).due("keep()", 4).stays("keep()", 4).due("count(0)", 4).due("count(7)", 6)
                .due("count(8)", 9);
    }

    private static void back() {
        String words = "All is as THE IMAGE: how many DRUMMERS. NO: there is none.";
        Run.of(41, words).stays("back()", NO).calls("drummer(0, 1)", "tell(1)", "sheet(0, 0, 1)").stays("back()", NO)
                .calls("keep()").stays("back()", 1);
        Run again = two(41, "all can become as it is (again and again)");
        for (int k = 0; k < 3; k++) {
            again.calls("beats(5)", "deal(10)", "turns(0, 5)", "set(1, 1, 1)", "set(1, 3, 3)", "miss(9)", "seed(9)")
                    .due("back()", 2).each(0, 0, 0).each(1, 7, 8).each(2, 7, 0).each(3, 0, 0).each(5, 0, 0)
                    .each(6, NONE, NONE).each(7, 1, 1).due("count(0)", 2).due("count(1)", 0).due("count(2)", 0)
                    .due("count(9)", 1);
        }
        Run.of(41, words).calls("keep()").toBeat(9999).due("back()", 0).due("count(1)", 0).due("beats(1)", 0)
                .due("count(1)", 1);
        Run.of(41, words).calls("deal(10)", "keep()", "back()").stays("drummer(0, 1)", FULL);
    }

    private static void backOfEverything() {
        String words = "AN IMAGE keeps all but SHEETS, SLOTS, numbers that wait, THE TAPE";
        Run.of(41, words).calls("drummer(0, 7)", "set(0, 2, 7)", "beats(2)", "set(0, 3, 2)", "keep()", "set(0, 2,"
                + " 8)", "beats(3)", "set(0, 3, 3)").due("back()", 1).each(2, 9).each(3, 8).each(4, 7).each(5, 1)
                .each(6, 2).each(7, 2).due("count(1)", 2);
        Run.of(41, words).law("fine 5").calls("keep()").law("fine 6").law("hear 1").due("back()", 0).due("count(6)", 1)
                .due("fine()", 5).stays("why(0)", NONE).stays("why(2)", 0).stays("textTold(1, 0)", BAD).tape("start 3")
                .due("text()", 1);
        Run.rich(41, words).calls("keep()", "sheet(0, 0, 1)", "lay(3, 3, 9)", "tell(1)", "feed(0, 0, 0)")
                .due("back()", 4).due("count(7)", 7).due("count(8)", 21).due("rest(3, 100)", 9).places(0, 0)
                .places(1, 8, OneStroke.KIND, -9, 99999);
        Run.of(41, words).calls("keep()", "sheet(3, 0, 2)", "lay(0, 3, 5)", "tell(4)").tape("fine 1").due("back()", 0)
                .stays("pour(3)", 0).stays("rest(0, 9)", 5).due("count(7)", 1).due("text()", 0);
        Run.of(41, words).row(0, 0, "4").calls("lay(1, 3, 6)", "tell(4)").tape("fine 1")
                .calls("keep()", "sheet(0, -1, 0)", "lay(1, 0, 0)", "check(1)").calls("trim(0)").due("back()", 0)
                .stays("pour(0)", OneStroke.NOTHING).stays("rest(1, 9)", OneStroke.NOTHING).due("count(7)", 0)
                .due("count(8)", 0);
    }

    private static void count() {
        String words = "8 bytes of THE TAPE, 9 z. BAD.";
        Run.rich(42, words).stays("count(-1)", BAD).stays("count(0)", 4).stays("count(8)", 9).stays("count(10)", BAD)
                .stays("count(MIN)", BAD).stays("count(MAX)", BAD);
        Run.rich(42, words).calls("seed(5)").stays("count(9)", 5).stays("count(1)", 7).stays("count(2)", 30)
                .stays("count(6)", 3).stays("count(7)", 6);
        Run none = Run.of(42, "0 how many DRUMMERS, 1 THE BEAT, 2 MISS");
        for (int what = 0; what < 9; what++) {
            none.stays("count(" + what + ")", 0);
        }
        none.stays("count(9)", 1).stays("count(10)", BAD).stays("count(-1)", BAD);
    }

    private static void countOfAll() {
        String words = "3 STROKES of all, together, 4 how many have a COUNT above 0, 5 COUNTS of all, together";
        Run ten = Run.of(42, words).times(10, "drummer(0, 1)");
        for (int k = 0; k < 10; k++) {
            ten.calls("set(" + k + ", 2, 8)").due("count(4)", k + 1).due("count(5)", 8 * (k + 1));
        }
        ten.calls("beats(1)").stays("count(3)", 10).stays("count(5)", 90).stays("count(4)", 10).stays("count(0)", 10)
                .calls("beats(1)").stays("count(3)", 10).stays("count(5)", 0).stays("count(4)", 0);
        Run.of(42, words).calls("drummer(0, 1)", "set(0, 2, 1)").due("count(4)", 1).due("count(5)", 1)
                .due("count(3)", 0).calls("set(0, 2, 9)").due("count(4)", 1).due("count(5)", 9).due("count(3)", 0);
        Run.of(42, "6 TEXTS, 7 numbers that wait, 8 bytes of THE TAPE").calls("keep()").times(60, "tell(0)")
                .times(8, "feed(0, 0, 0)").due("count(7)", 60).due("count(8)", 96).stays("tell(0)", FULL)
                .stays("feed(0, 0, 0)", FULL).due("count(7)", 60).due("count(8)", 96);
        Run.of(42, "1 THE BEAT").toBeat(9999).calls("beats(100)").due("count(1)", 9999).calls("miss(100)")
                .due("count(2)", 100);
    }
}
