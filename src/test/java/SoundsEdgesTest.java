/** The edges of promises 19 to 23, words by words: far, reach, edge, miscounted, fine. */
public final class SoundsEdgesTest {
    private static final int BAD = OneStroke.BAD, NONE = OneStroke.NONE, NOTHING = OneStroke.NOTHING;
    private static final String[] FAR_OFF = {"MIN", "MAX"};

    public static void main(String[] args) {
        far();
        farOfApart();
        reach();
        reachOfNOrLess();
        edge();
        miscounted();
        miscountedRefused();
        miscountedStarts();
        miscountedBeats();
        miscountedPlaces();
        miscountedOfSeveral();
        miscountedIsThought();
        fine();
        Run.end("SoundsEdgesTest", 19, 23);
    }

    /** DRUMMERS with these APART. */
    private static Run apart(int promise, String words, int... aparts) {
        Run run = Run.of(promise, words);
        for (int k = 0; k < aparts.length; k++) {
            run.calls("drummer(0, 5)", "set(" + k + ", 3, " + aparts[k] + ")");
        }
        return run;
    }

    private static void far() {
        Run.of(19, "FAR. BAD.").stays("far(0, 0)", BAD).stays("far(-1, -1)", BAD).calls("drummer(0, 1)")
                .stays("far(0, 0)", 0).stays("far(0, 1)", BAD).stays("far(1, 0)", BAD).stays("far(1, 1)", BAD)
                .stays("far(-1, 0)", BAD).stays("far(0, -1)", BAD);
        apart(19, "FAR. BAD.", 1, 1, 1, 1, 1, 1, 1, 1, 1, 1).stays("far(0, 9)", 9).stays("far(9, 0)", 9)
                .stays("far(0, 10)", BAD).stays("far(10, 0)", BAD).stays("far(9, 9)", 0);
        for (String far : FAR_OFF) {
            Run.rich(19, "FAR. BAD.").stays("far(" + far + ", 0)", BAD).stays("far(0, " + far + ")", BAD);
        }
        Run.rich(19, "FAR. BAD.").stays("far(0, 4)", BAD).stays("far(4, 0)", BAD).stays("far(0, 3)", 6)
                .stays("far(3, 0)", 6);
    }

    private static void farOfApart() {
        String words = "FAR of two: BEATS that a sound takes from the one to the other (0 of one and itself).";
        apart(19, words, 3, 3, 3, 3, 3, 3, 3, 3, 3, 3).stays("far(0, 9)", 27).stays("far(9, 0)", 27)
                .stays("far(8, 9)", 3);
        apart(19, words, 1, 2, 3).stays("far(0, 0)", 0).stays("far(1, 1)", 0).stays("far(2, 2)", 0)
                .stays("far(0, 1)", 1).stays("far(1, 0)", 1).stays("far(1, 2)", 2).stays("far(2, 1)", 2)
                .stays("far(0, 2)", 3).stays("far(2, 0)", 3);
    }

    private static void reach() {
        String words = "WITHIN n (0 .. 30), as a set (with itself). BAD.";
        Run.of(20, words).stays("reach(0, 0)", BAD).calls("drummer(0, 1)").stays("reach(0, -1)", BAD)
                .stays("reach(0, 0)", 1).stays("reach(0, 30)", 1).stays("reach(0, 31)", BAD).stays("reach(-1, 0)", BAD)
                .stays("reach(1, 0)", BAD);
        apart(20, words, 3, 3, 3, 3, 3, 3, 3, 3, 3, 3).stays("reach(9, 0)", 512).stays("reach(10, 0)", BAD)
                .stays("reach(9, 30)", 1023).stays("reach(9, 31)", BAD).stays("reach(0, 27)", 1023)
                .stays("reach(0, 26)", 511).stays("reach(9, 26)", 1022);
        for (String far : FAR_OFF) {
            Run.rich(20, words).stays("reach(" + far + ", 0)", BAD).stays("reach(0, " + far + ")", BAD);
        }
        Run.rich(20, words).stays("reach(4, 5)", BAD).stays("reach(-1, 5)", BAD).stays("reach(3, -1)", BAD)
                .stays("reach(3, 31)", BAD);
    }

    private static void reachOfNOrLess() {
        String words = "WITHIN n of one: all that are n or less FAR.";
        apart(20, words, 1, 3, 2, 1, 3).stays("reach(2, 0)", 0b00100).stays("reach(2, 1)", 0b00100)
                .stays("reach(2, 2)", 0b01100).stays("reach(2, 3)", 0b11110).stays("reach(2, 4)", 0b11111)
                .stays("reach(4, 1)", 0b11000).stays("reach(0, 1)", 0b00011);
        apart(20, "Sets of DRUMMERS are told as bits (bit k for number k).", 1, 1, 1, 1, 1, 1, 1, 1, 1, 1)
                .stays("reach(0, 0)", 1).stays("reach(9, 1)", 0b1100000000).stays("reach(0, 9)", 1023)
                .stays("reach(0, 8)", 511);
    }

    private static void edge() {
        String words = "EDGE of one: the greatest FAR of all from it.";
        Run.of(21, "EDGE. BAD.").stays("edge(0)", BAD).stays("edge(-1)", BAD).calls("drummer(0, 1)", "set(0, 3, 3)")
                .stays("edge(0)", 0).stays("edge(1)", BAD).stays("edge(-1)", BAD);
        apart(21, words, 1, 3, 2, 1, 3).stays("edge(0)", 7).stays("edge(1)", 6).stays("edge(2)", 4).stays("edge(3)", 6)
                .stays("edge(4)", 7);
        apart(21, words, 3, 3, 3, 3, 3, 3, 3, 3, 3, 3).stays("edge(0)", 27).stays("edge(9)", 27).stays("edge(10)", BAD)
                .stays("edge(4)", 15).stays("edge(5)", 15);
        Run.rich(21, "EDGE. BAD.").stays("edge(4)", BAD).stays("edge(-1)", BAD).stays("edge(MIN)", BAD)
                .stays("edge(MAX)", BAD);
        apart(21, words, 2).calls("keep()", "drummer(0, 1)").stays("edge(0)", 2).calls("back()").stays("edge(0)", 0)
                .stays("edge(1)", BAD);
    }

    private static void miscounted() {
        String words = "MISCOUNTED by a SHEET in n (1 .. 60): what 0 the DRUMMER, 1 the differences, together.";
        Run.rich(22, words).stays("miscounted(-1, 1, 0)", BAD).stays("miscounted(4, 1, 0)", BAD)
                .stays("miscounted(0, 0, 0)", BAD).stays("miscounted(0, 61, 0)", BAD).stays("miscounted(0, 1, -1)", BAD)
                .stays("miscounted(0, 1, 2)", BAD).stays("miscounted(0, -1, 0)", BAD)
                .stays("miscounted(3, 1, 0)", NOTHING).stays("miscounted(2, 1, 0)", 0).stays("miscounted(2, 1, 1)", 0)
                .stays("miscounted(2, 60, 0)", 0).stays("miscounted(2, 60, 1)", 0);
        for (String far : FAR_OFF) {
            Run.rich(22, words).stays("miscounted(" + far + ", 1, 0)", BAD).stays("miscounted(0, " + far + ", 0)", BAD)
                    .stays("miscounted(0, 1, " + far + ")", BAD);
        }
        Run.of(22, words).calls("drummer(0, 1)", "sheet(0, 0, 1)", "sheet(3, 1, 24)").stays("miscounted(0, 1, 0)", 0)
                .stays("miscounted(3, 1, 1)", 0);
    }

    private static void miscountedRefused() {
        String words = "BAD; NOTHING; NONE: there are no DRUMMERS.";
        Run.of(22, words).stays("miscounted(4, 0, 2)", BAD).stays("miscounted(0, 0, 0)", BAD)
                .stays("miscounted(0, 61, 0)", BAD).stays("miscounted(0, 1, 2)", BAD)
                .stays("miscounted(0, 1, 0)", NOTHING).stays("miscounted(3, 60, 1)", NOTHING).calls("sheet(0, 0, 2)")
                .stays("miscounted(0, 1, 0)", NONE).stays("miscounted(0, 60, 1)", NONE)
                .stays("miscounted(0, 0, 0)", BAD).stays("miscounted(0, 61, 1)", BAD).stays("miscounted(0, 1, 2)", BAD)
                .stays("miscounted(0, 1, -1)", BAD).stays("miscounted(1, 1, 0)", NOTHING)
                .calls("keep()", "drummer(0, 1)").stays("miscounted(0, 1, 0)", 0).stays("miscounted(1, 1, 0)", NOTHING)
                .calls("back()").stays("miscounted(0, 1, 0)", NONE);
    }

    /** One who always hears: it wakes with BEAT 1, and its first BEAT is 10 less its START. */
    private static void miscountedStarts() {
        String words = "the one with whose START 1 more (9: 1) first BEATS";
        for (int start = 1; start <= 9; start++) {
            int first = start == 9 ? 9 : 9 - start;
            Run.of(22, words).calls("drummer(0, " + start + ")").law("hear 1").row(0, 0, "" + first)
                    .stays("miscounted(0, 60, 0)", 0).stays("miscounted(0, 60, 1)", 0);
        }
    }

    private static void miscountedBeats() {
        String words = "first BEATS (of n; 0 of one that does not strike)";
        Run.of(22, words).calls("drummer(4, 1)", "set(0, 2, 8)").law("hear 1").law("start 7+(b=59)").row(0, 0, "60")
                .stays("miscounted(0, 60, 1)", 0).stays("miscounted(0, 59, 1)", 60).calls("mark(0, 0, 0)")
                .stays("miscounted(0, 59, 1)", 0).stays("miscounted(0, 60, 1)", 60);
        Run.of(22, words).calls("drummer(0, 8)").law("hear 1").row(0, 0, "1").stays("miscounted(0, 1, 1)", 0).toBeat(1)
                .calls("set(0, 2, 8)").stays("miscounted(0, 1, 1)", 0).calls("beats(1)").each(6, 2)
                .stays("miscounted(0, 2, 1)", 1);
        Run.of(22, words).calls("drummer(0, 8)", "set(0, 2, 8)", "beats(1)").each(5, 1).row(0, 0, "0")
                .stays("miscounted(0, 60, 1)", 0);
    }

    private static void miscountedPlaces() {
        String words = "of DRUMMERS k and places k that are numbers differ least (signs left out; places beyond all"
                + " DRUMMERS: 0), together";
        Run.of(22, words).calls("drummer(0, 8)", "drummer(0, 8)").law("hear 0").calls("set(0, 2, 4)", "set(1, 2, 4)")
                .row(0, 0, "3", "7").stays("miscounted(0, 60, 1)", 4).row(0, 0, "3").stays("miscounted(0, 60, 1)", 2)
                .row(0, 0, "7").stays("miscounted(0, 60, 1)", 2).row(0, 0).stays("miscounted(0, 60, 1)", 0)
                .stays("miscounted(0, 60, 0)", 0).row(0, 0, "-5", "5").stays("miscounted(0, 60, 1)", 10)
                .row(0, 1, "NONE", "7").stays("miscounted(0, 60, 1)", 2).row(0, 1, "NONE", "NONE")
                .stays("miscounted(0, 60, 1)", 0).row(0, 1, "99999", "-99999")
                .stays("miscounted(0, 60, 1)", 99994 + 100004).row(0, 0, "-32768", "32767")
                .stays("miscounted(0, 60, 1)", 32773 + 32762);
        // Who is not there does not strike: its first BEAT is 0 (NOTES.md tells of the other reading).
        Run.of(22, words).calls("drummer(0, 8)").law("hear 0").calls("set(0, 2, 4)")
                .row(0, 1, "5", "3", "-4", "NONE", "0").stays("miscounted(0, 60, 1)", 7)
                .stays("miscounted(0, 60, 0)", 0);
        Run.of(22, words).calls("drummer(0, 8)", "keep()", "drummer(0, 8)", "drummer(0, 8)")
                .calls("set(0, 2, 8)", "set(1, 2, 8)").row(0, 0, "0", "1").stays("miscounted(0, 60, 1)", 1)
                .calls("back()").stays("miscounted(0, 60, 1)", 1);
        Run full = Run.of(22, words).times(10, "drummer(0, 8)").law("hear 0").calls("sheet(0, 0, 24)");
        full.stays("miscounted(0, 60, 1)", 0).calls("mark(0, 9, 2)").stays("miscounted(0, 60, 1)", 2)
                .calls("mark(0, 10, 3)").stays("miscounted(0, 60, 1)", 5).calls("mark(0, 23, 4)")
                .stays("miscounted(0, 60, 1)", 9);
    }

    private static void miscountedOfSeveral() {
        String words = "together; of several the least.";
        Run.of(22, words).calls("drummer(0, 1)", "drummer(0, 1)").law("hear 1").row(0, 0, "9", "8")
                .stays("miscounted(0, 60, 0)", 1).stays("miscounted(0, 60, 1)", 0).row(0, 0, "8", "9")
                .stays("miscounted(0, 60, 0)", 0).stays("miscounted(0, 60, 1)", 0).row(0, 0, "8", "8")
                .stays("miscounted(0, 60, 0)", 0).stays("miscounted(0, 60, 1)", 1);
        Run ten = Run.of(22, words).times(10, "drummer(0, 1)").law("hear 1")
                .row(0, 0, "9", "9", "9", "9", "9", "9", "9", "9", "9", "8");
        ten.stays("miscounted(0, 60, 0)", 9).stays("miscounted(0, 60, 1)", 0).calls("mark(0, 9, 9)")
                .stays("miscounted(0, 60, 0)", 0).stays("miscounted(0, 60, 1)", 1);
    }

    private static void miscountedIsThought() {
        String words = "(All this is only thought, from now on, z as it is, without the bound of THE BEAT: nothing"
                + " changes.)";
        Run.rich(22, words).changesNothing("miscounted(0, 60, 0)").changesNothing("miscounted(1, 60, 1)");
        Run.of(22, words).calls("drummer(0, 1)").toBeat(9999).calls("set(0, 2, 7)").row(0, 0, "2")
                .stays("miscounted(0, 2, 1)", 0).stays("miscounted(0, 1, 1)", 2);
    }

    private static void fine() {
        String words = "of fine m how many STROKES there were in all, b THE BEAT (what fine gives is told by fine();"
                + " without a TEXT: m).";
        Run.of(23, words).stays("fine()", 0).law("fine b").stays("fine()", 0).toBeat(9999).stays("fine()", 9999)
                .calls("beats(1)").stays("fine()", 9999).law("fine m").stays("fine()", 0);
        Run run = Run.of(23, words).times(10, "drummer(0, 8)");
        for (int k = 0; k < 10; k++) {
            run.calls("set(" + k + ", 2, 8)");
        }
        run.calls("beats(1)").stays("fine()", 10).law("fine m*100+b").stays("fine()", 1001).law("fine 0-m")
                .stays("fine()", -10).law("fine m*8192*8192*32/2").stays("fine()", 0).law("fine (m-9)*8192*8192*32")
                .stays("fine()", Integer.MIN_VALUE).law("fine (m-9)*8192*8192*32-1").stays("fine()", Integer.MAX_VALUE);
        Run.of(23, "What fine gives.").calls("drummer(0, 8)", "set(0, 2, 8)", "beats(1)").law("hear 7").law("start 7")
                .stays("fine()", 1).law("fine 5").law("hear 9").stays("fine()", 5).law("fine 6").stays("fine()", 6);
    }
}
