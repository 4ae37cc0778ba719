/** Promises 10 to 18: order, hush, beats, behind, soon, all, spread, toWhom, mend. */
public final class BeatsTest {
    private static final int BAD = OneStroke.BAD, NO = OneStroke.NO, NONE = OneStroke.NONE;
    private static final int MIN = Integer.MIN_VALUE, MAX = Integer.MAX_VALUE;

    public static void main(String[] args) {
        order();
        hush();
        beatsAndStrokes();
        beatsOfKinds();
        beatsOfSounds();
        draws();
        lastBeat();
        behind();
        soon();
        all();
        spread();
        toWhom();
        mend();
        nothingChanges();
        Due.end("BeatsTest");
    }

    /** DRUMMERS of KIND 0 with these STARTS. */
    private static OneStroke line(int... starts) {
        OneStroke x = new OneStroke();
        for (int start : starts) {
            x.drummer(0, start);
        }
        return x;
    }

    /** Ten who strike at once, and again: START 9, and one BEAT ahead of 9. */
    private static OneStroke ten() {
        OneStroke x = line(9, 9, 9, 9, 9, 9, 9, 9, 9, 9);
        for (int k = 0; k < 10; k++) {
            x.set(k, 2, 8);
        }
        Due.due("all() of ten", x.all(), 1);
        Due.due("spread(1) of ten", x.spread(1), 0);
        Due.due("behind(9, 1, 2) of ten", x.behind(9, 1, 2), 10);
        return x;
    }

    private static void counts(String when, OneStroke x, int... want) {
        for (int k = 0; k < want.length; k++) {
            Due.due("COUNT of " + k + " " + when, x.told(k, 2), want[k]);
        }
    }

    private static void order() {
        OneStroke x = line(4, 9);
        x.drummer(2, 4);
        x.drummer(3, 1);
        Due.due("order(0)", x.order(0), 4);
        Due.due("order(0) again", x.order(0), NO);
        Due.due("order(1)", x.order(1), 9);
        Due.due("order(2) of EAGER", x.order(2), 5);
        Due.due("order(3) of LATE", x.order(3), 1);
        Due.due("order(3) with COUNT 1", x.order(3), NO);
        Due.due("order(4)", x.order(4), BAD);
        Due.due("order(-1)", x.order(-1), BAD);
        counts("by orders", x, 4, 9, 5, 1);
        Due.due("an ORDER is no stroke", x.count(3), 0);
        Due.due("what 1 was a BEAT ago", x.told(1, 3), 0);
        Due.due("nor is what follows one", x.beats(1), 0);
        counts("behind a BEAT", x, 5, 0, 6, 2);
        Tapes.law(x, "start s-b");
        x.hush();
        Due.due("order(1) by TEXT", x.order(1), 8);
    }

    private static void hush() {
        OneStroke x = line(7, 1, 1);
        x.order(0);
        x.beats(2);
        Due.due("hush()", x.hush(), 3);
        counts("hushed", x, 0, 0, 0);
        for (int k = 0; k < 3; k++) {
            Due.due("a BEAT ago", x.told(k, 3), 0);
            Due.due("two BEATS ago", x.told(k, 4), 0);
        }
        Due.due("STROKES stay", x.told(0, 5), 1);
        Due.due("FIRST stays", x.told(0, 6), 2);
        Due.due("THE BEAT stays", x.count(1), 2);
        Due.due("hush() again", x.hush(), 0);
        x.set(1, 2, 1);
        Due.due("hush() of one", x.hush(), 1);
        Due.due("hush() of none", new OneStroke().hush(), 0);
        Due.due("hush() of ten", ten().hush(), 10);
    }

    private static void beatsAndStrokes() {
        OneStroke x = line(8);
        Due.due("beats(0)", x.beats(0), BAD);
        Due.due("beats(101)", x.beats(101), BAD);
        Due.due("beats(-1)", x.beats(-1), BAD);
        Due.due("beats(MIN)", x.beats(MIN), BAD);
        x.beats(3);
        x.order(0);
        Due.due("beats(1)", x.beats(1), 1);
        Due.due("STROKES", x.told(0, 5), 1);
        Due.due("FIRST is THE BEAT then", x.told(0, 6), 4);
        x.beats(1);
        counts("from 9", x, 0);
        x.order(0);
        Due.due("beats(100)", x.beats(100), 1);
        Due.due("STROKES, two", x.told(0, 5), 2);
        Due.due("FIRST stays", x.told(0, 6), 4);
        x = line(5, 9, 9);
        x.order(0);
        Due.due("one that wakes to 9 strikes", x.beats(1), 1);
        counts("behind 1", x, 6, 9, 0);
        Due.due("and so does the next", x.beats(1), 1);
        counts("behind 2", x, 7, 0, 9);
        Due.due("and again", x.beats(1), 1);
        counts("behind 3", x, 8, 9, 0);
        Due.due("two at once", x.beats(1), 2);
        counts("behind 4", x, 9, 0, 9);
        x = line(1);
        x.set(0, 2, 9);
        x.miss(100);
        Due.due("who stays at 9 does not strike", x.beats(5), 0);
    }

    private static void beatsOfKinds() {
        OneStroke x = new OneStroke();
        x.drummer(1, 1);
        x.set(0, 2, 7);
        Due.due("SLEEPY strikes with BEAT 2", x.beats(2), 1);
        Due.due("and not at 0", x.beats(1), 0);
        counts("of SLEEPY", x, 0);
        x.set(0, 2, 8);
        Due.due("SLEEPY stays where the rest is 3", x.beats(1), 0);
        counts("of SLEEPY that stays", x, 8);
        x.beats(2);
        x.set(0, 2, 8);
        Due.due("SLEEPY strikes with BEAT 7", x.beats(1), 1);
        Due.due("stays at 9 and does not strike", x.beats(1), 0);
        counts("of SLEEPY at 9", x, 9);
        x.beats(1);
        counts("of SLEEPY behind 9", x, 0);
        x = new OneStroke();
        x.drummer(4, 1);
        x.set(0, 2, 7);
        x.beats(1);
        counts("of TRAITOR", x, 8);
        Due.due("TRAITOR does not strike from 8", x.beats(1), 0);
        counts("of TRAITOR from 8", x, 0);
    }

    private static void beatsOfSounds() {
        OneStroke x = line(1, 2, 3, 4);
        x.order(0);
        x.beats(1);
        counts("a BEAT behind an ORDER to 0", x, 2, 2, 0, 0);
        x.beats(1);
        counts("two BEATS behind", x, 3, 3, 3, 0);
        x = line(1, 2, 3, 4);
        x.order(3);
        x.beats(1);
        counts("a BEAT behind an ORDER to 3", x, 0, 0, 3, 5);
        x.beats(1);
        counts("two BEATS behind it", x, 0, 2, 4, 6);
        x = line(1, 2, 3);
        x.set(0, 3, 3);
        x.set(1, 3, 2);
        x.order(1);
        x.beats(1);
        counts("APART 3 and 2, behind 1", x, 0, 3, 0);
        x.beats(1);
        counts("APART 3 and 2, behind 2", x, 0, 4, 3);
        x.beats(1);
        counts("APART 3 and 2, behind 3", x, 1, 5, 4);
        x = line(1, 1);
        x.set(0, 2, 9);
        x.beats(1);
        counts("what is heard is as it was", x, 0, 1);
        x = line(1, 1, 1);
        Tapes.law(x, "hear n=2");
        Tapes.law(x, "start b+5");
        x.beats(1);
        counts("by TEXTS, behind 1", x, 0, 0, 5);
        x.beats(2);
        x.hush();
        x.beats(1);
        counts("by TEXTS, behind 4", x, 0, 0, 8);
    }

    private static void draws() {
        OneStroke x = line(1, 1, 1);
        x.beats(5);
        Due.due("no draws for those that are still", x.count(9), 1);
        x.set(0, 2, 1);
        x.set(2, 2, 1);
        x.beats(1);
        int z = 1;
        z = z * 1103515245 + 12345;
        z = z * 1103515245 + 12345;
        Due.due("a draw for each that counts, also with MISS 0", x.count(9), z);
        counts("with the woken one", x, 2, 1, 2);
        x.miss(50);
        int[] count = {2, 1, 2};
        for (int n = 0; n < 6; n++) {
            for (int k = 0; k < 3; k++) {
                z = z * 1103515245 + 12345;
                count[k] += (z >>> 8) % 100 < 50 ? 0 : 1;
            }
            x.beats(1);
            counts("by lot", x, count);
        }
        Due.due("z behind them", x.count(9), z);
    }

    private static void lastBeat() {
        OneStroke x = line(1);
        for (int k = 0; k < 99; k++) {
            x.beats(100);
        }
        Due.due("THE BEAT is 9900", x.count(1), 9900);
        x.order(0);
        Due.due("beats(100) from 9900", x.beats(100), 1);
        Due.due("FIRST", x.told(0, 6), 9908);
        Due.due("THE BEAT is 9999", x.count(1), 9999);
        x.set(0, 2, 8);
        Due.due("beats(100) from 9999", x.beats(100), 0);
        Due.due("beats(101) from 9999", x.beats(101), BAD);
        Due.due("THE BEAT is still 9999", x.count(1), 9999);
        counts("at the end", x, 8);
        Due.due("soon() beyond 9999", x.soon(), 1);
        Due.due("behind(0, 2, 0) beyond 9999", x.behind(0, 2, 0), 0);
        x.turns(0, 1);
        Due.due("SLEEPY in 9999", x.behind(0, 1, 0), 8);
        Due.due("SLEEPY beyond 9999", x.behind(0, 2, 0), 9);
    }

    private static void behind() {
        OneStroke x = line(7, 8, 1);
        x.order(0);
        Due.due("behind(0, 0, 0)", x.behind(0, 0, 0), 7);
        Due.due("behind(0, 0, 1)", x.behind(0, 0, 1), 0);
        Due.due("behind(0, 0, 2)", x.behind(0, 0, 2), 0);
        Due.due("behind(1, 1, 0)", x.behind(1, 1, 0), 8);
        Due.due("behind(1, 2, 0)", x.behind(1, 2, 0), 9);
        Due.due("behind(1, 2, 1)", x.behind(1, 2, 1), 1);
        Due.due("behind(2, 2, 1)", x.behind(2, 2, 1), 0);
        Due.due("behind(2, 2, 2)", x.behind(2, 2, 2), 2);
        Due.due("behind(2, 1, 2)", x.behind(2, 1, 2), 0);
        Due.due("behind(2, 3, 2)", x.behind(2, 3, 2), 0);
        x.beats(2);
        Due.due("STROKES ahead of them do not count", x.behind(1, 0, 1), 0);
        Due.due("nor do strikes", x.behind(1, 0, 2), 0);
        Due.due("behind(0, 100, 0)", x.behind(0, 100, 0) >= 0);
        int[][] wrong = {{0, -1, 0}, {0, 101, 0}, {0, 1, -1}, {0, 1, 3}, {3, 1, 0}, {-1, 1, 0}, {3, 1, 2}, {MIN, MAX, MIN}};
        for (int[] one : wrong) {
            Due.due("behind" + java.util.Arrays.toString(one), x.behind(one[0], one[1], one[2]), BAD);
        }
    }

    private static void soon() {
        Due.due("soon() without DRUMMERS", new OneStroke().soon(), NONE);
        OneStroke x = line(1, 5, 2);
        Due.due("soon() of still ones", x.soon(), NONE);
        x.order(0);
        Due.due("soon()", x.soon(), 5);
        x.beats(5);
        Due.due("soon() does not count this BEAT", x.soon(), 3);
        x = atTheHundredth(99, 8);
        Due.due("soon() at the hundredth", x.soon(), 100);
        Due.due("all() at the hundredth", x.all(), 100);
        Due.due("spread(100) at the hundredth", x.spread(100), 0);
        Due.due("spread(99)", x.spread(99), NONE);
        x = atTheHundredth(100, 0);
        Due.due("soon() beyond the hundredth", x.soon(), NONE);
        Due.due("all() beyond the hundredth", x.all(), NONE);
        x.beats(1);
        Due.due("soon() a BEAT later", x.soon(), 100);
    }

    /** A TRAITOR wakes to 8 and falls still in turn, each other BEAT; only where THE BEAT is b does it wake to 9. */
    private static OneStroke atTheHundredth(int b, int count) {
        OneStroke x = new OneStroke();
        x.drummer(4, 1);
        Tapes.law(x, "hear 1");
        Tapes.law(x, "start 7+(b=" + b + ")");
        x.set(0, 2, count);
        return x;
    }

    private static void all() {
        Due.due("all() without DRUMMERS", new OneStroke().all(), NONE);
        OneStroke x = line(1, 2, 3);
        Due.due("all() of still ones", x.all(), NONE);
        x.order(0);
        Due.due("all()", x.all(), 8);
        x.set(2, 1, 2);
        Due.due("all() with another START", x.all(), NONE);
        Due.due("all() of one", oneAt(8).all(), 1);
        x = line(2, 1, 2);
        x.order(1);
        x.beats(8);
        Due.due("three strike", x.count(3), 3);
        Due.due("all() does not count this BEAT", x.all() != 0);
    }

    private static OneStroke oneAt(int count) {
        OneStroke x = line(1);
        x.set(0, 2, count);
        return x;
    }

    private static void spread() {
        Due.due("spread(5) without DRUMMERS", new OneStroke().spread(5), NONE);
        OneStroke x = line(1, 1, 5);
        x.order(0);
        Due.due("spread(9)", x.spread(9), 3);
        Due.due("spread(8)", x.spread(8), NONE);
        Due.due("spread(100)", x.spread(100), 3);
        Due.due("spread(0)", x.spread(0), BAD);
        Due.due("spread(101)", x.spread(101), BAD);
        Due.due("spread(-1)", x.spread(-1), BAD);
        Due.due("spread of one", oneAt(8).spread(1), 0);
        x.beats(9);
        Due.due("SPREAD of these BEATS alone", x.spread(3), NONE);
    }

    private static void toWhom() {
        Due.due("toWhom(5) without DRUMMERS", new OneStroke().toWhom(5), NONE);
        OneStroke x = line(1, 1, 1);
        Due.due("toWhom(9)", x.toWhom(9), 1);
        Due.due("toWhom(60)", x.toWhom(60), 1);
        Due.due("toWhom(8)", x.toWhom(8), NONE);
        Due.due("toWhom(1)", x.toWhom(1), NONE);
        Due.due("toWhom(1) of one", line(8).toWhom(1), 0);
        Due.due("toWhom(0)", x.toWhom(0), BAD);
        Due.due("toWhom(61)", x.toWhom(61), BAD);
        Due.due("toWhom(-5)", x.toWhom(-5), BAD);
        Due.due("of several the least", line(1, 1, 1, 1).toWhom(20), 1);
        x = line(1, 2, 1);
        Due.due("to the end of the line", line(1, 2, 3).toWhom(20), 0);
        Due.due("to the other end", line(3, 2, 1).toWhom(20), 2);
        x = line(1, 1, 1);
        x.set(1, 2, 1);
        Due.due("only to those that are still", x.toWhom(20), 0);
        x.set(0, 2, 1);
        x.set(2, 2, 1);
        Due.due("none is still", x.toWhom(20), NONE);
        x = line(9);
        Due.due("an ORDER is no stroke in thought", x.toWhom(5), NONE);
    }

    private static void mend() {
        Due.due("mend(5, 0) without DRUMMERS", new OneStroke().mend(5, 0), NONE);
        Due.due("mend of still ones", line(1, 1).mend(40, 2), NONE);
        OneStroke x = line(1, 1);
        x.order(0);
        mended("n 10", x, 10, 1, 2, 2);
        mended("n 8", x, 8, 1, 2, 2);
        mended("n 7", x, 7, 1, 3, 1);
        mended("n 1", x, 1, 1, 9, 1);
        Due.due("mend(0, 0)", x.mend(0, 0), BAD);
        Due.due("mend(41, 0)", x.mend(41, 0), BAD);
        Due.due("mend(5, 3)", x.mend(5, 3), BAD);
        Due.due("mend(5, -1)", x.mend(5, -1), BAD);
        Due.due("mend(MIN, MIN)", x.mend(MIN, MIN), BAD);
        x.set(1, 1, 2);
        Due.due("it must be more than as it is", x.mend(8, 0), NONE);
        x = line(1, 1, 1);
        x.set(1, 2, 8);
        mended("of several the least DRUMMER", x, 1, 0, 9, 2);
        x = line(2, 9);
        x.set(1, 2, 2);
        mended("START 1", x, 9, 0, 1, 2);
        Due.due("mend of ten", ten().mend(40, 2), NONE);
        x = line(1, 4);
        x.set(0, 2, 9);
        mended("of several the least START", x, 5, 0, 6, 1);
    }

    private static void mended(String when, OneStroke x, int n, int drummer, int start, int striking) {
        Due.due("mend(" + n + ", 0) " + when, x.mend(n, 0), drummer);
        Due.due("mend(" + n + ", 1) " + when, x.mend(n, 1), start);
        Due.due("mend(" + n + ", 2) " + when, x.mend(n, 2), striking);
    }

    private static void nothingChanges() {
        OneStroke x = line(1, 4, 7);
        x.miss(30);
        x.order(1);
        x.beats(9);
        x.sheet(0, 0, 5);
        thinksAndStays("some count", x);
        x.hush();
        thinksAndStays("all are still", x);
    }

    private static void thinksAndStays(String when, OneStroke x) {
        int[] ahead = everything(x);
        x.behind(0, 50, 0);
        x.soon();
        x.all();
        x.spread(30);
        x.toWhom(30);
        x.mend(30, 0);
        x.miscounted(0, 20, 0);
        x.reads(0, 1);
        int[] then = everything(x);
        for (int k = 0; k < ahead.length; k++) {
            Due.due("what is only thought changes nothing, " + when + ": " + k, then[k], ahead[k]);
        }
    }

    private static int[] everything(OneStroke x) {
        int[] found = new int[10 + 12 * 3];
        for (int what = 0; what < 10; what++) {
            found[what] = x.count(what);
        }
        for (int k = 0; k < 3; k++) {
            for (int what = 0; what < 12; what++) {
                found[10 + 12 * k + what] = x.told(k, what);
            }
        }
        return found;
    }
}
