/** The edges of promises 10 to 18, words by words: order, hush, beats, behind, soon, all, spread, toWhom, mend. */
public final class BeatsEdgesTest {
    private static final int BAD = OneStroke.BAD, NO = OneStroke.NO, NONE = OneStroke.NONE;
    private static final String THOUGHT = "(All this is only thought, from now on, z as it is, without the bound of"
            + " THE BEAT: nothing changes.)";

    public static void main(String[] args) {
        order();
        orderIsNoStroke();
        hush();
        beats();
        beatsUpTo9999();
        beatsAreHeardAsItIs();
        beatsAreDrawnByNumbers();
        beatsAndStrikes();
        behind();
        behindWithout();
        soon();
        all();
        spread();
        spreadOfAll();
        toWhom();
        toWhomOfSeveral();
        mend();
        mendStarts();
        mendIsMore();
        mendOfSeveral();
        beyondTheLastBeat();
        Run.end("BeatsEdgesTest", 10, 18);
    }

    /** DRUMMERS of KIND 0 with these STARTS. */
    private static Run line(int promise, String words, int... starts) {
        Run run = Run.of(promise, words);
        for (int start : starts) {
            run.calls("drummer(0, " + start + ")");
        }
        return run;
    }

    /** Ten DRUMMERS with these COUNTS. */
    private static Run ten(int promise, String words, int... counts) {
        Run run = Run.of(promise, words);
        for (int k = 0; k < 10; k++) {
            run.calls("drummer(0, 5)", "set(" + k + ", 2, " + counts[k] + ")");
        }
        return run;
    }

    /**
     * A TRAITOR who strikes first in this BEAT: it wakes to 8 and is still in turn, as it always hears, and wakes to 9
     * only where the law says so.
     */
    private static Run strikesIn(int promise, String words, int beat) {
        return Run.of(promise, words).calls("drummer(4, 1)").law("hear 1").law("start 7+(b=" + (beat - 1) + ")")
                .calls("set(0, 2, " + (beat % 2 == 0 ? 8 : 0) + ")");
    }

    private static void order() {
        String words = "AN ORDER: COUNT then. BAD; NO: its COUNT is above 0.";
        Run.of(10, words).stays("order(0)", BAD).stays("order(-1)", BAD).calls("drummer(0, 1)").stays("order(-1)", BAD)
                .stays("order(1)", BAD).due("order(0)", 1).stays("order(0)", NO).calls("set(0, 2, 9)")
                .stays("order(0)", NO).calls("set(0, 2, 0)").due("order(0)", 1);
        ten(10, words, 1, 2, 3, 4, 5, 6, 7, 8, 9, 0).stays("order(0)", NO).stays("order(8)", NO).stays("order(10)", BAD)
                .due("order(9)", 5).stays("order(9)", NO);
        Run.rich(10, words).stays("order(4)", BAD).stays("order(-1)", BAD).stays("order(MIN)", BAD)
                .stays("order(MAX)", BAD).calls("set(3, 2, 1)").stays("order(3)", NO);
    }

    private static void orderIsNoStroke() {
        String words = "AN ORDER to one: if its COUNT is 0, it is what it WAKES to (no stroke).";
        line(10, words, 9).toBeat(2).due("order(0)", 9).due("told(0, 5)", 0).due("told(0, 6)", NONE)
                .due("told(0, 3)", 0).due("told(0, 4)", 0).due("count(1)", 2).due("count(9)", 1).due("beats(1)", 0)
                .due("told(0, 2)", 0).due("told(0, 3)", 9);
        line(10, words, 5).law("start 0").due("order(0)", 1);
        line(10, words, 5).law("start 10").due("order(0)", 9);
        Run.of(10, words).calls("drummer(3, 1)").due("order(0)", 1);
        Run.of(10, words).calls("drummer(2, 9)").due("order(0)", 9);
    }

    private static void hush() {
        String words = "All are still (COUNT 0, also 1 and 2 BEATS ago): how many had a COUNT above 0.";
        Run.of(11, words).stays("hush()", 0).calls("drummer(0, 1)").stays("hush()", 0).calls("set(0, 2, 1)")
                .due("hush()", 1).stays("hush()", 0);
        ten(11, words, 1, 2, 3, 4, 5, 6, 7, 8, 9, 1).due("hush()", 10).due("count(4)", 0).due("count(5)", 0);
        ten(11, words, 1, 2, 3, 4, 5, 6, 7, 8, 9, 0).due("hush()", 9).due("told(8, 2)", 0);
        line(11, words, 1).calls("set(0, 2, 8)", "beats(2)").each(2, 0).each(3, 9).each(4, 8).due("hush()", 0)
                .each(3, 0).each(4, 0).each(5, 1).each(6, 1).due("count(1)", 2);
        line(11, words, 1).calls("set(0, 2, 9)", "beats(2)").each(3, 0).each(4, 9).due("hush()", 0).each(4, 0);
        line(11, words, 1, 1).calls("set(0, 3, 3)", "set(0, 2, 8)", "beats(2)").each(8, 0, 1).due("hush()", 0)
                .each(8, 0, 0);
    }

    private static void beats() {
        String words = "n (1 .. 100) BEATS (no more than up to 9999): how many STROKES there were in them. BAD.";
        Run.of(12, words).stays("beats(0)", BAD).due("beats(1)", 0).due("count(1)", 1).due("beats(100)", 0)
                .due("count(1)", 101).stays("beats(101)", BAD).stays("beats(-1)", BAD).stays("beats(MIN)", BAD)
                .stays("beats(MAX)", BAD).due("count(1)", 101);
        Run.rich(12, words).stays("beats(0)", BAD).stays("beats(101)", BAD);
        ten(12, words, 8, 8, 8, 8, 8, 8, 8, 8, 8, 8).due("beats(1)", 10).due("count(3)", 10);
        strikesIn(12, words, 100).due("beats(100)", 1);
        strikesIn(12, words, 101).due("beats(100)", 0).due("beats(1)", 1);
    }

    private static void beatsUpTo9999() {
        String words = "THE BEAT is 0 at first, 9999 at most.";
        line(12, words, 5).toBeat(9998).calls("miss(50)", "set(0, 2, 8)", "miss(0)").due("beats(2)", 1)
                .due("count(1)", 9999).due("told(0, 2)", 9).stays("beats(1)", 0).stays("beats(100)", 0)
                .stays("beats(0)", BAD).stays("beats(101)", BAD).due("count(1)", 9999).due("told(0, 2)", 9);
        line(12, words, 5).toBeat(9899).calls("set(0, 2, 1)").due("beats(100)", 1).due("count(1)", 9999);
        line(12, words, 5).toBeat(9900).calls("set(0, 2, 1)").due("beats(100)", 1).due("count(1)", 9999);
        line(12, words, 5).toBeat(9998).calls("set(0, 2, 7)").due("beats(100)", 0).due("told(0, 2)", 8);
        line(12, words, 5).toBeat(9997).calls("set(0, 2, 7)").due("beats(100)", 1).due("told(0, 6)", 9999);
    }

    private static void beatsAreHeardAsItIs() {
        String words = "what HEARS is asked of all as it is; then of each, by numbers";
        line(12, words, 1, 2, 3).calls("set(0, 2, 9)", "beats(1)").each(2, 0, 2, 0);
        line(12, words, 1, 2, 3).calls("set(0, 2, 1)", "beats(1)").each(2, 2, 2, 0).calls("beats(1)").each(2, 3, 3, 3);
        line(12, words, 1, 2, 3).calls("set(2, 2, 9)", "beats(1)").each(2, 0, 2, 0).calls("beats(1)").each(2, 1, 3, 3);
        line(12, "COUNT 0: if it HEARS, COUNT is what it WAKES to", 4, 5).calls("beats(1)").each(2, 0, 0)
                .calls("set(0, 2, 1)", "beats(1)").each(2, 2, 5);
        line(12, "COUNT 0: if it HEARS, COUNT is what it WAKES to", 4).law("hear 1").law("start b").calls("beats(1)")
                .each(2, 1).calls("set(0, 2, 0)").toBeat(8).calls("set(0, 2, 0)", "beats(1)").each(2, 8);
    }

    private static void beatsAreDrawnByNumbers() {
        String words = "above 0: a draw; if its rest by 100 is below MISS, it stays; else it does its STEP.";
        int z = 0;
        while (rest(z, 1) >= 50 || rest(z, 2) < 50) {
            z++;
        }
        line(12, words, 1, 1).calls("set(0, 2, 4)", "set(1, 2, 4)", "miss(50)", "seed(" + z + ")", "beats(1)")
                .each(2, 4, 5).due("count(9)", drawn(z, 2));
        line(12, words, 1, 1).calls("set(1, 2, 4)", "miss(50)", "seed(" + z + ")", "beats(1)").each(2, 1, 4)
                .due("count(9)", drawn(z, 1));
        line(12, words, 1).calls("beats(100)").due("count(9)", 1).calls("set(0, 2, 9)", "beats(1)")
                .due("count(9)", drawn(1, 1)).calls("beats(1)").due("count(9)", drawn(1, 1))
                .calls("set(0, 2, 1)", "beats(1)").due("count(9)", drawn(1, 2));
    }

    private static int drawn(int z, int times) {
        return times == 0 ? z : drawn(z * 1103515245 + 12345, times - 1);
    }

    private static int rest(int z, int times) {
        return (drawn(z, times) >>> 8) % 100;
    }

    private static void beatsAndStrikes() {
        String words = "Those with COUNT 9 then strike, if their COUNT was another one ahead of this BEAT: STROKES 1"
                + " more, FIRST is THE BEAT, if it has none.";
        line(12, words, 1).calls("set(0, 2, 7)").due("beats(1)", 0).due("beats(1)", 1).each(5, 1).each(6, 2)
                .due("beats(1)", 0).each(2, 0).each(5, 1).calls("set(0, 2, 8)").due("beats(1)", 1).each(5, 2)
                .each(6, 2);
        line(12, words, 1).calls("set(0, 2, 9)", "miss(100)").due("beats(1)", 0).each(2, 9).each(5, 0).each(6, NONE);
        line(12, words, 1).calls("set(0, 2, 9)").due("beats(1)", 0).each(2, 0).each(5, 0);
        line(12, words, 9).law("hear 1").due("beats(1)", 1).each(2, 9).due("beats(1)", 0).each(2, 0).due("beats(1)", 1)
                .each(5, 2).each(6, 1);
        Run.of(12, words).calls("drummer(1, 1)", "beats(2)", "set(0, 2, 8)").due("beats(1)", 1).due("beats(1)", 0)
                .each(2, 9).each(5, 1).due("beats(1)", 0).each(2, 0);
        Run.of(12, words).calls("drummer(4, 1)", "set(0, 2, 7)").due("beats(1)", 0).each(2, 8).due("beats(1)", 0)
                .each(2, 0).each(5, 0);
        Run.of(12, "all COUNTS come one BEAT farther back").calls("drummer(0, 1)", "set(0, 2, 3)", "beats(1)")
                .each(2, 4).each(3, 3).each(4, 0).calls("beats(1)").each(2, 5).each(3, 4).each(4, 3).calls("beats(1)")
                .each(4, 4);
        Run.of(12, "all COUNTS come one BEAT farther back").calls("drummer(0, 1)", "set(0, 2, 9)", "beats(3)")
                .each(2, 0).each(3, 0).each(4, 0);
    }

    private static void behind() {
        String words = "BEHIND n (0 .. 100) BEATS of one: what 0 COUNT, 1 its STROKES in them, 2 how many strike in"
                + " the last one. BAD.";
        Run.of(13, words).stays("behind(0, 0, 0)", BAD).stays("behind(-1, 0, 0)", BAD).stays("behind(0, 1, 2)", BAD);
        line(13, words, 5).calls("set(0, 2, 6)").stays("behind(-1, 0, 0)", BAD).stays("behind(1, 0, 0)", BAD)
                .stays("behind(0, -1, 0)", BAD).stays("behind(0, 0, 0)", 6).stays("behind(0, 3, 0)", 9)
                .stays("behind(0, 100, 0)", 0).stays("behind(0, 101, 0)", BAD).stays("behind(0, 3, -1)", BAD)
                .stays("behind(0, 3, 1)", 1).stays("behind(0, 3, 2)", 1).stays("behind(0, 3, 3)", BAD);
        ten(13, words, 8, 8, 8, 8, 8, 8, 8, 8, 8, 0).stays("behind(9, 1, 0)", 5).stays("behind(10, 1, 0)", BAD)
                .stays("behind(9, 1, 1)", 0).stays("behind(9, 1, 2)", 9).stays("behind(0, 1, 1)", 1);
        strikesIn(13, words, 100).stays("behind(0, 99, 1)", 0).stays("behind(0, 100, 1)", 1)
                .stays("behind(0, 100, 2)", 1).stays("behind(0, 99, 2)", 0).stays("behind(0, 100, 0)", 9);
        for (String far : new String[] {"MIN", "MAX"}) {
            Run.rich(13, words).stays("behind(" + far + ", 1, 0)", BAD).stays("behind(0, " + far + ", 0)", BAD)
                    .stays("behind(0, 1, " + far + ")", BAD);
        }
        Run run = Run.rich(13, THOUGHT);
        for (int what = 0; what < 3; what++) {
            run.changesNothing("behind(3, 100, " + what + ")");
        }
    }

    private static void behindWithout() {
        String words = "how many strike in the last one (0 without)";
        line(13, words, 8).calls("set(0, 2, 8)", "beats(1)").each(5, 1).stays("behind(0, 0, 2)", 0)
                .stays("behind(0, 0, 1)", 0).stays("behind(0, 0, 0)", 9).stays("behind(0, 1, 1)", 0)
                .stays("behind(0, 1, 0)", 0);
        line(13, words, 9).law("hear 1").calls("beats(1)").stays("behind(0, 5, 1)", 2).stays("behind(0, 4, 1)", 2)
                .stays("behind(0, 3, 1)", 1).stays("behind(0, 4, 2)", 1).stays("behind(0, 3, 2)", 0);
    }

    private static void soon() {
        String words = "SOON: behind how many BEATS (1 .. 100) some strike first.";
        Run.of(14, words).stays("soon()", NONE);
        line(14, words, 1).stays("soon()", NONE).calls("set(0, 2, 8)").stays("soon()", 1).calls("beats(1)")
                .stays("soon()", NONE);
        for (int beat : new int[] {1, 2, 99, 100}) {
            strikesIn(14, words, beat).stays("soon()", beat);
        }
        strikesIn(14, "SOON. NONE: not by then.", 101).stays("soon()", NONE).calls("beats(1)").stays("soon()", 100);
        ten(14, words, 0, 0, 0, 0, 0, 0, 0, 0, 0, 8).stays("soon()", 1);
        line(14, words, 9).law("hear 1").calls("beats(1)").stays("soon()", 2);
        Run.rich(14, THOUGHT).changesNothing("soon()");
    }

    private static void all() {
        String words = "ALL: behind how many BEATS (1 .. 100) all strike at once first.";
        Run.of(15, "ALL. NONE: not by then, or there are no DRUMMERS.").stays("all()", NONE)
                .calls("keep()", "drummer(0, 1)", "set(0, 2, 8)").stays("all()", 1).calls("back()")
                .stays("all()", NONE);
        for (int beat : new int[] {1, 2, 99, 100}) {
            strikesIn(15, words, beat).stays("all()", beat);
        }
        strikesIn(15, "ALL. NONE: not by then, or there are no DRUMMERS.", 101).stays("all()", NONE).calls("beats(1)")
                .stays("all()", 100);
        ten(15, words, 8, 8, 8, 8, 8, 8, 8, 8, 8, 8).stays("all()", 1);
        ten(15, words, 8, 8, 8, 8, 8, 8, 8, 8, 8, 7).law("hear 0").stays("all()", NONE);
        ten(15, words, 7, 8, 8, 8, 8, 8, 8, 8, 8, 8).law("hear 0").stays("all()", NONE);
        line(15, words, 9, 9).law("hear 1").calls("beats(1)").stays("all()", 2);
        Run.rich(15, THOUGHT).changesNothing("all()");
    }

    private static void spread() {
        String words = "SPREAD in n (1 .. 100). BAD; NONE: also without DRUMMERS.";
        Run.of(16, words).stays("spread(0)", BAD).stays("spread(1)", NONE).stays("spread(100)", NONE)
                .stays("spread(101)", BAD);
        line(16, words, 1).calls("set(0, 2, 8)").stays("spread(0)", BAD).stays("spread(1)", 0).stays("spread(100)", 0)
                .stays("spread(101)", BAD).stays("spread(-1)", BAD).stays("spread(MIN)", BAD).stays("spread(MAX)", BAD);
        Run.rich(16, words).stays("spread(0)", BAD).stays("spread(101)", BAD).changesNothing("spread(100)");
        strikesIn(16, "of each the first BEAT (of these n) in which it strikes", 100).stays("spread(99)", NONE)
                .stays("spread(100)", 0);
    }

    private static void spreadOfAll() {
        String words = "the greatest less the least; none, if one does not.";
        line(16, words, 1, 1).law("hear 0").calls("set(0, 2, 8)", "set(1, 2, 6)").stays("spread(3)", 2)
                .stays("spread(2)", NONE).calls("set(1, 2, 8)").stays("spread(1)", 0).calls("set(0, 2, 1)")
                .stays("spread(8)", 7).stays("spread(7)", NONE).calls("set(0, 2, 0)").stays("spread(100)", NONE);
        Run.of(16, words).times(2, "drummer(4, 1)").law("hear 1").law("start 7+(b=0&n=0)+(b=99&n=1)")
                .calls("set(1, 2, 8)").stays("spread(100)", 99).stays("spread(99)", NONE);
        ten(16, words, 8, 8, 8, 8, 7, 8, 8, 8, 8, 8).law("hear 0").stays("spread(2)", 1).stays("spread(1)", NONE);
        ten(16, words, 8, 8, 8, 8, 8, 8, 8, 8, 8, 0).law("hear 0").stays("spread(100)", NONE);
        line(16, "of each the first BEAT (of these n) in which it strikes", 9, 1).law("hear n=0").calls("set(1, 2, 5)")
                .stays("spread(4)", 3).calls("beats(1)").due("told(0, 5)", 1).stays("spread(3)", 1)
                .stays("spread(2)", NONE);
    }

    private static void toWhom() {
        String words = "TO WHOM in n (1 .. 60). BAD; NONE: there is none.";
        Run.of(17, words).stays("toWhom(0)", BAD).stays("toWhom(1)", NONE).stays("toWhom(60)", NONE)
                .stays("toWhom(61)", BAD);
        line(17, words, 8).stays("toWhom(0)", BAD).stays("toWhom(1)", 0).stays("toWhom(60)", 0).stays("toWhom(61)", BAD)
                .stays("toWhom(-1)", BAD).stays("toWhom(MIN)", BAD).stays("toWhom(MAX)", BAD);
        line(17, words, 9).stays("toWhom(60)", NONE);
        Run.rich(17, words).stays("toWhom(0)", BAD).stays("toWhom(61)", BAD).calls("hush()")
                .changesNothing("toWhom(60)");
        Run.of(17, words).calls("drummer(4, 1)").law("hear 1").law("start 7+(b=59)").stays("toWhom(59)", NONE)
                .stays("toWhom(60)", 0);
    }

    private static void toWhomOfSeveral() {
        String words = "of those whose COUNT is 0 the one by an ORDER to whom now SPREAD is least (there must be one);"
                + " of several the least.";
        line(17, words, 8).calls("set(0, 2, 8)").stays("toWhom(5)", NONE).calls("set(0, 2, 0)").stays("toWhom(5)", 0);
        line(17, words, 1, 1, 1).stays("toWhom(8)", NONE).stays("toWhom(9)", 1).calls("set(1, 2, 1)")
                .stays("toWhom(20)", 0).calls("set(0, 2, 1)").stays("toWhom(20)", 2).calls("set(2, 2, 1)")
                .stays("toWhom(20)", NONE);
        line(17, words, 1, 1, 1, 1).stays("toWhom(20)", 1);
        line(17, words, 5, 5).stays("toWhom(20)", 0);
        ten(17, words, 8, 8, 8, 8, 8, 8, 8, 8, 8, 0).calls("set(9, 1, 8)").stays("toWhom(1)", 9).calls("set(9, 1, 7)")
                .stays("toWhom(1)", NONE).stays("toWhom(2)", 9);
        line(17, "(no stroke)", 9, 9).law("hear 0").stays("toWhom(60)", NONE);
    }

    private static void mend() {
        String words = "MEND in n (1 .. 40): what 0 the DRUMMER, 1 the START, 2 how many strike then. BAD; NONE: there"
                + " is none.";
        Run.of(18, words).stays("mend(0, 0)", BAD).stays("mend(1, 0)", NONE).stays("mend(40, 2)", NONE)
                .stays("mend(41, 0)", BAD).stays("mend(1, -1)", BAD).stays("mend(1, 3)", BAD);
        line(18, words, 5).law("hear 1").stays("mend(0, 0)", BAD).stays("mend(1, -1)", BAD).stays("mend(1, 0)", 0)
                .stays("mend(1, 1)", 9).stays("mend(1, 2)", 1).stays("mend(1, 3)", BAD).stays("mend(41, 0)", BAD)
                .stays("mend(-1, 0)", BAD).stays("mend(4, 1)", 6).stays("mend(5, 1)", NONE);
        for (String far : new String[] {"MIN", "MAX"}) {
            Run.rich(18, words).stays("mend(" + far + ", 0)", BAD).stays("mend(1, " + far + ")", BAD);
        }
        Run.rich(18, THOUGHT).calls("hush()", "order(0)").changesNothing("mend(40, 0)").changesNothing("mend(40, 1)")
                .changesNothing("mend(40, 2)");
        for (int start : new int[] {1, 2, 8, 9}) {
            Run.of(18, words).calls("drummer(4, 5)", "set(0, 2, 8)").law("hear 1").law("start 7+(b=39&s=" + start + ")")
                    .stays("mend(39, 1)", NONE).stays("mend(40, 0)", 0).stays("mend(40, 1)", start)
                    .stays("mend(40, 2)", 1);
            Run.of(18, words).calls("drummer(4, 5)").law("hear 1").law("start 7+(b=40&s=" + start + ")")
                    .stays("mend(40, 1)", NONE).calls("set(0, 1, " + start + ")").stays("behind(0, 41, 2)", 1);
        }
    }

    private static void mendStarts() {
        for (int start = -1; start <= 11; start++) {
            boolean taken = start >= 1 && start <= 9;
            line(18, "START 1 .. 9", 5).law("hear 1").law("start 1+8*(s=" + (start < 0 ? "0-1" : start) + ")")
                    .calls("set(0, 1, " + (start == 5 ? 6 : 5) + ")").stays("mend(1, 1)", taken ? start : NONE);
        }
    }

    private static void mendIsMore() {
        String words = "a DRUMMER and a START with which most strike in one BEAT, and more than as it is";
        line(18, words, 5).law("hear 1").law("start 9").stays("mend(40, 0)", NONE);
        line(18, words, 1, 1).law("hear n=0").calls("set(1, 2, 8)").stays("mend(1, 2)", 2).stays("mend(1, 1)", 9)
                .stays("mend(1, 0)", 0).calls("set(0, 1, 9)").stays("mend(1, 2)", NONE);
        line(18, words, 1, 1).law("hear n=0").calls("set(1, 2, 1)").stays("mend(7, 2)", 1).stays("mend(8, 2)", 2)
                .stays("mend(8, 1)", 2);
        ten(18, words, 8, 8, 8, 8, 8, 8, 8, 8, 8, 8).stays("mend(40, 2)", NONE);
        ten(18, words, 8, 8, 8, 8, 8, 8, 8, 8, 8, 0).stays("mend(1, 0)", 9).stays("mend(1, 1)", 9)
                .stays("mend(1, 2)", 10);
        line(18, words, 1, 1, 9).law("hear n<2|l=8").stays("mend(2, 0)", 1).stays("mend(2, 1)", 8)
                .stays("mend(2, 2)", 2);
    }

    private static void mendOfSeveral() {
        String words = "of several the least DRUMMER, then the least START.";
        line(18, words, 5, 5).law("hear 1").law("start 1+8*(n=0&s=9)+8*(n=1&s=1)").stays("mend(1, 0)", 0)
                .stays("mend(1, 1)", 9).stays("mend(1, 2)", 1);
        line(18, words, 5).law("hear 1").law("start 1+8*(s=3|s=7)").stays("mend(1, 1)", 3).calls("set(0, 1, 9)")
                .stays("mend(1, 1)", 3);
        line(18, words, 5, 5, 5).law("hear 1").law("start 1+8*(n=2&s=1|n=1&s=2)").stays("mend(1, 0)", 1)
                .stays("mend(1, 1)", 2);
    }

    /** What is only thought goes beyond 9999, where BEATS are no more. */
    private static void beyondTheLastBeat() {
        Run run = line(13, THOUGHT, 8, 1).toBeat(9999).calls("set(0, 2, 7)").stays("beats(5)", 0);
        run.stays("behind(0, 2, 0)", 9).stays("behind(0, 2, 1)", 1).stays("behind(0, 2, 2)", 1);
        line(14, THOUGHT, 8).toBeat(9999).calls("set(0, 2, 7)").stays("soon()", 2);
        line(15, THOUGHT, 8).toBeat(9999).calls("set(0, 2, 7)").stays("all()", 2);
        line(16, THOUGHT, 8, 8).toBeat(9999).calls("set(0, 2, 7)").stays("spread(2)", 0).stays("spread(1)", NONE);
        line(17, THOUGHT, 7).toBeat(9999).stays("toWhom(1)", NONE).stays("toWhom(2)", 0);
        line(18, THOUGHT, 5).law("hear 1").toBeat(9999).calls("hush()").stays("mend(2, 1)", 8).stays("mend(1, 1)", 9);
        Run.of(13, THOUGHT).calls("drummer(1, 1)").toBeat(9999).calls("set(0, 2, 5)").stays("behind(0, 1, 0)", 5)
                .stays("behind(0, 2, 0)", 6).stays("behind(0, 4, 0)", 8).stays("behind(0, 5, 0)", 8)
                .stays("behind(0, 6, 0)", 9);
        line(13, THOUGHT, 1).law("hear 1").law("start 1+7*(b=9999)+5*(b>9999)").toBeat(9999).calls("set(0, 2, 0)")
                .stays("behind(0, 1, 0)", 8).calls("set(0, 2, 9)").stays("behind(0, 2, 0)", 6);
    }
}
