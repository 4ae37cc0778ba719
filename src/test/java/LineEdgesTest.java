/** The edges of promises 1 to 9, words by words: a new object, drummer, told, as, turns, set, miss, deal, seed. */
public final class LineEdgesTest {
    private static final int BAD = OneStroke.BAD, NO = OneStroke.NO, FULL = OneStroke.FULL, NONE = OneStroke.NONE,
            NOTHING = OneStroke.NOTHING, KIND = OneStroke.KIND;
    private static final String[] FAR_OFF = {"MIN", "MAX"};

    public static void main(String[] args) {
        newObject();
        newObjectOfSheetsAndSlots();
        drummerOfKinds();
        drummerOfStarts();
        drummerOfTen();
        drummerAtFirst();
        toldOfWhom();
        toldOfWhat();
        toldFirst();
        toldSound();
        toldHears();
        toldHearsOfDeaf();
        toldWakes();
        toldWakesByStart();
        toldStep();
        toldWorth();
        toldAsTheOneAbove();
        as();
        turns();
        setOfStarts();
        setOfCounts();
        setOfApart();
        setOfWhat();
        miss();
        missByLot();
        deal();
        dealByLot();
        seed();
        Run.end("LineEdgesTest", 1, 9);
    }

    private static Run ten(int promise, String words) {
        return Run.of(promise, words).times(10, "drummer(0, 5)");
    }

    /** Six DRUMMERS, number k of KIND k. */
    private static Run kinds(int promise, String words, int start) {
        Run run = Run.of(promise, words);
        for (int kind = 0; kind < 6; kind++) {
            run.calls("drummer(" + kind + ", " + start + ")");
        }
        return run;
    }

    private static void newObject() {
        Run.of(1, "As told; no DRUMMERS.").due("count(0)", 0).due("count(3)", 0).due("count(4)", 0).due("count(5)", 0)
                .stays("told(0, 0)", BAD).stays("order(0)", BAD).stays("edge(0)", BAD).stays("hush()", 0);
        Run.of(1, "MISS is 0 .. 100 (0 at first).").due("count(2)", 0).due("miss(100)", 0);
        Run.of(1, "THE BEAT is 0 at first, 9999 at most.").due("count(1)", 0).due("beats(1)", 0).due("count(1)", 1);
        Run.of(1, "z is told (1 at first).").due("count(9)", 1).due("seed(0)", 1);
        Run.of(1, "TEXTS, 14 at most, numbered from 0, from THE TAPE").due("count(6)", 0).due("count(8)", 0)
                .stays("textTold(0, 0)", BAD).stays("why(0)", NONE).stays("why(1)", NONE).stays("why(2)", NONE);
        Run.of(1, "NO: there is none.").due("count(7)", 0).stays("back()", NO).usesNumbers("check(1)", NO);
        Run.rich(1, "As told; no DRUMMERS.");
        Run.of(1, "As told; no DRUMMERS.").due("count(0)", 0).due("count(6)", 0).due("count(7)", 0).due("count(8)", 0)
                .stays("back()", NO).due("fine()", 0);
    }

    private static void newObjectOfSheetsAndSlots() {
        for (int k = 0; k < 4; k++) {
            Run.of(1, "with 0 to 24 places, or MISSING (at first).").stays("pour(" + k + ")", NOTHING)
                    .stays("mark(" + k + ", 0, 0)", NOTHING).stays("lay(0, 2, " + k + ")", NOTHING);
        }
        for (int k = 0; k < 5; k++) {
            Run.of(1, "SLOTS 0 .. 4 each hold nothing (at first)").stays("rest(" + k + ", 1)", NOTHING)
                    .stays("item(" + k + ", 0)", NOTHING).stays("ask(" + k + ", 0)", NOTHING)
                    .due("lay(" + k + ", 0, 0)", 0);
        }
    }

    private static void drummerOfKinds() {
        String words = "of KINDS: 0 DRUMMER; 1 SLEEPY, 2 EAGER, 5 DEAF, under DRUMMER; 3 LATE, under SLEEPY; 4"
                + " TRAITOR, under EAGER";
        Run.of(2, words).stays("drummer(-1, 5)", BAD).due("drummer(0, 5)", 0).due("drummer(5, 5)", 1)
                .stays("drummer(6, 5)", BAD).stays("drummer(MIN, 5)", BAD).stays("drummer(MAX, 5)", BAD)
                .due("count(0)", 2).each(0, 0, 5);
        Run.rich(2, words).stays("drummer(-1, 5)", BAD).stays("drummer(6, 5)", BAD).due("drummer(5, 5)", 4);
    }

    private static void drummerOfStarts() {
        Run.of(2, "START 1 .. 9").stays("drummer(3, 0)", BAD).due("drummer(3, 1)", 0).due("drummer(3, 9)", 1)
                .stays("drummer(3, 10)", BAD).stays("drummer(3, MIN)", BAD).stays("drummer(3, MAX)", BAD)
                .stays("drummer(3, -1)", BAD).due("count(0)", 2).each(1, 1, 9);
        Run.rich(2, "START 1 .. 9").stays("drummer(0, 0)", BAD).stays("drummer(0, 10)", BAD).due("drummer(0, 9)", 4);
    }

    private static void drummerOfTen() {
        Run run = Run.of(2, "DRUMMERS, 10 at most, numbered from 0 along the line");
        for (int k = 0; k < 10; k++) {
            run.due("drummer(" + k % 6 + ", " + (1 + k % 9) + ")", k).due("count(0)", k + 1);
        }
        run.stays("drummer(0, 1)", FULL).stays("drummer(5, 9)", FULL).due("count(0)", 10);
        run.each(0, 0, 1, 2, 3, 4, 5, 0, 1, 2, 3).each(1, 1, 2, 3, 4, 5, 6, 7, 8, 9, 1);
        ten(2, "its number. BAD; FULL.").stays("drummer(6, 1)", BAD).stays("drummer(-1, 1)", BAD)
                .stays("drummer(0, 0)", BAD).stays("drummer(0, 10)", BAD).stays("drummer(0, 1)", FULL);
        Run.of(2, "One more DRUMMER, at the end of the line").calls("drummer(0, 1)", "drummer(0, 2)", "set(1, 2, 1)")
                .due("drummer(5, 3)", 2).due("told(2, 8)", 1).due("told(0, 8)", 1);
        Run.of(2, "One more DRUMMER, at the end of the line").calls("keep()").times(10, "drummer(0, 5)").calls("back()")
                .due("drummer(0, 5)", 0);
        ten(2, "DRUMMERS, 10 at most, numbered from 0 along the line").calls("keep()").calls("back()")
                .stays("drummer(0, 5)", FULL);
    }

    /** Also of one who takes the place of one that was there ahead of back(). */
    private static void drummerAtFirst() {
        atFirst("COUNT 0 .. 9 (0 at first: still)", 2, 0);
        atFirst("what it was 1 and 2 BEATS ago (0 at first)", 3, 0);
        atFirst("what it was 1 and 2 BEATS ago (0 at first)", 4, 0);
        atFirst("STROKES (how often it struck; 0)", 5, 0);
        atFirst("FIRST (THE BEAT of its first stroke; none at first)", 6, NONE);
        atFirst("APART 1 .. 3 (BEATS that a sound takes to the next one; 1 at first)", 7, 1);
    }

    private static void atFirst(String words, int what, int want) {
        Run.of(2, words).calls("drummer(4, 9)").each(what, want);
        Run.of(2, words).calls("keep()", "drummer(0, 5)", "set(0, 2, 7)", "set(0, 3, 3)", "beats(2)").each(5, 1)
                .calls("back()", "drummer(3, 8)").each(what, want).each(0, 3).each(1, 8);
    }

    private static void toldOfWhom() {
        String words = "9 what it would WAKE to, 10 STEP from its COUNT as it is (0: 0), 11 WORTH. BAD.";
        Run.of(3, words).stays("told(0, 0)", BAD).stays("told(-1, 0)", BAD).calls("drummer(1, 5)")
                .stays("told(0, 0)", 1).stays("told(1, 0)", BAD).stays("told(-1, 0)", BAD);
        ten(3, words).stays("told(9, 1)", 5).stays("told(10, 1)", BAD);
        for (String far : FAR_OFF) {
            Run.rich(3, words).stays("told(" + far + ", 0)", BAD).stays("told(0, " + far + ")", BAD);
        }
        Run.of(3, words).calls("keep()", "drummer(0, 1)", "back()").stays("told(0, 0)", BAD);
    }

    private static void toldOfWhat() {
        Run.rich(3, "Of a DRUMMER: what 0 KIND, 1 START, 2 COUNT").stays("told(3, -1)", BAD).stays("told(3, 0)", 4)
                .stays("told(3, 11)", 8).stays("told(3, 12)", BAD).stays("told(4, 0)", BAD).stays("told(-1, 11)", BAD);
        Run run = Run.rich(3, "Of a DRUMMER: what 0 KIND, 1 START, 2 COUNT");
        for (int what = 0; what < 12; what++) {
            run.changesNothing("told(0, " + what + ")");
        }
        Run.of(3, "3 what it was a BEAT ago, 4 two ago").calls("drummer(0, 1)", "set(0, 2, 4)").each(3, 0).each(4, 0)
                .calls("beats(1)").each(2, 5).each(3, 4).each(4, 0).calls("beats(1)").each(3, 5).each(4, 4)
                .calls("beats(1)").each(3, 6).each(4, 5).calls("set(0, 2, 0)").each(3, 6).each(4, 5);
    }

    private static void toldFirst() {
        Run.of(3, "6 FIRST (NONE)").calls("drummer(0, 1)").stays("told(0, 6)", NONE).calls("set(0, 2, 8)")
                .stays("told(0, 6)", NONE).calls("beats(1)").stays("told(0, 6)", 1).calls("set(0, 2, 8)", "beats(1)")
                .each(5, 2).stays("told(0, 6)", 1);
        Run.of(3, "FIRST is THE BEAT, if it has none").calls("drummer(0, 1)").toBeat(9998)
                .calls("set(0, 2, 8)", "beats(1)").due("told(0, 6)", 9999);
    }

    private static void toldSound() {
        String words = "SOUND of a neighbour: what its COUNT was APART less 1 BEATS ago (APART of the lesser one of"
                + " both); 0 without one.";
        for (int apart = 1; apart <= 3; apart++) {
            for (int other = 1; other <= 3; other++) {
                Run.of(3, words).calls("drummer(0, 1)", "drummer(0, 1)").law("hear 0").calls("set(0, 2, 7)", "beats(2)")
                        .calls("set(0, 3, " + apart + ")", "set(1, 3, " + other + ")").law("hear l=" + (10 - apart))
                        .each(8, 0, 1).law("hear r=" + (10 - apart)).each(8, 0, 0);
                Run.of(3, words).calls("drummer(0, 1)", "drummer(0, 1)").law("hear 0").calls("set(1, 2, 7)", "beats(2)")
                        .calls("set(0, 3, " + apart + ")", "set(1, 3, " + other + ")").law("hear r=" + (10 - apart))
                        .each(8, 1, 0).law("hear l=" + (10 - apart)).each(8, 0, 0);
            }
        }
        Run.of(3, words).calls("drummer(0, 1)").law("hear l=0&r=0").each(8, 1).calls("set(0, 2, 5)").each(8, 1);
        Run.of(3, words).calls("drummer(0, 1)", "drummer(0, 1)", "set(0, 2, 5)", "set(1, 2, 6)").law("hear l=0")
                .each(8, 1, 0).law("hear r=0").each(8, 0, 1).law("hear l=5").each(8, 0, 1).law("hear r=6")
                .each(8, 1, 0);
        Run run = Run.of(3, words).times(10, "drummer(0, 1)");
        for (int k = 0; k < 10; k++) {
            run.calls("set(" + k + ", 2, 4)");
        }
        run.law("hear l=0").each(8, 1, 0, 0, 0, 0, 0, 0, 0, 0, 0).law("hear r=0").each(8, 0, 0, 0, 0, 0, 0, 0, 0, 0, 1);
        Run.of(3, words).calls("drummer(0, 1)", "keep()", "drummer(0, 1)", "set(1, 2, 5)", "back()").each(8, 0);
    }

    private static void toldHears() {
        String words = "without a TEXT: if SOUND of one neighbour at least is above 0";
        Run.of(3, words).times(3, "drummer(0, 1)").each(8, 0, 0, 0).calls("set(0, 2, 1)").each(8, 0, 1, 0)
                .calls("set(2, 2, 1)").each(8, 0, 1, 0).calls("set(0, 2, 0)").each(8, 0, 1, 0).calls("set(2, 2, 0)")
                .each(8, 0, 0, 0).calls("set(1, 2, 9)").each(8, 1, 0, 1);
        Run.of(3, words).calls("drummer(0, 1)", "set(0, 2, 9)").each(8, 0);
        String[][] laws = {{"0", "0"}, {"1", "1"}, {"2", "1"}, {"0-1", "1"}, {"8192*8192*32", "1"},
            {"8192*8192*32-1", "1"}, {"8192*8192*64", "0"}, {"n", "0"}, {"1/2", "0"}};
        for (String[] one : laws) {
            Run.of(3, "HEARS: DRUMMER: if hear gives what is not 0").calls("drummer(0, 1)").law("hear " + one[0])
                    .each(8, Integer.parseInt(one[1]));
        }
        kinds(3, "HEARS: DRUMMER: if hear gives what is not 0", 5).law("hear n=9").each(8, 0, 0, 0, 0, 0, 0)
                .law("hear 5").each(8, 1, 1, 1, 1, 1, 0);
    }

    private static void toldHearsOfDeaf() {
        String words = "DEAF: if SOUND of its neighbour with the lesser number is above 0.";
        Run.of(3, words).times(3, "drummer(5, 1)").each(8, 0, 0, 0).calls("set(1, 2, 1)").each(8, 0, 0, 1)
                .calls("set(0, 2, 1)").each(8, 0, 1, 1).calls("set(2, 2, 9)").each(8, 0, 1, 1);
        Run.of(3, words).times(2, "drummer(5, 1)").law("hear 1").each(8, 0, 0).calls("set(0, 2, 1)").law("hear 0")
                .each(8, 0, 1);
        Run.of(3, words).times(2, "drummer(5, 1)").calls("set(0, 3, 3)", "set(1, 3, 1)", "miss(100)", "set(0, 2, 1)")
                .each(8, 0, 0).calls("beats(1)").each(8, 0, 0).calls("beats(1)").each(8, 0, 1);
        Run.of(3, words).calls("drummer(5, 1)").each(8, 0);
    }

    private static void toldWakes() {
        String late = "LATE: as SLEEPY, less 1 (1 at least).";
        String eager = "EAGER: as DRUMMER, and 1 (9 at most).";
        int[][] due = {{1, 1, 1, 2, 1, 2, 1}, {2, 2, 2, 3, 1, 3, 2}, {3, 3, 3, 4, 2, 4, 3}, {7, 7, 7, 8, 6, 8, 7},
            {8, 8, 8, 9, 7, 9, 8}, {9, 9, 9, 9, 8, 9, 9}};
        for (int[] one : due) {
            for (String words : new String[] {late, eager, "(without a TEXT: START)"}) {
                kinds(3, words, one[0]).each(9, one[1], one[2], one[3], one[4], one[5], one[6]);
            }
        }
    }

    private static void toldWakesByStart() {
        String words = "WAKES to: DRUMMER: START, as start gives it, held within 1 .. 9";
        Object[][] due = {{"0", 1, 2, 1}, {"0-1", 1, 2, 1}, {"1", 1, 2, 1}, {"2", 2, 3, 1}, {"8", 8, 9, 7},
            {"9", 9, 9, 8}, {"10", 9, 9, 8}, {"9999", 9, 9, 8}, {"8192*8192*32", 1, 2, 1}, {"8192*8192*32-1", 9, 9, 8},
            {"8192*8192*64", 1, 2, 1}, {"s", 5, 6, 4}, {"s-4", 1, 2, 1}, {"s-5", 1, 2, 1}, {"s+4", 9, 9, 8},
            {"s+5", 9, 9, 8}};
        for (Object[] one : due) {
            int plain = (Integer) one[1];
            int eager = (Integer) one[2];
            kinds(3, words, 5).law("start " + one[0]).each(9, plain, plain, eager, (Integer) one[3], eager, plain);
        }
        ten(3, words).law("start n").each(9, 1, 1, 2, 3, 4, 5, 6, 7, 8, 9).law("start n+1")
                .each(9, 1, 2, 3, 4, 5, 6, 7, 8, 9, 9);
        Run.of(3, words).calls("drummer(0, 5)").law("start b").each(9, 1).calls("beats(9)").each(9, 9).calls("beats(1)")
                .each(9, 9);
    }

    private static void toldStep() {
        String words = "STEP from a COUNT above 0: DRUMMER: 1 more; from 9 it is 0. SLEEPY: as DRUMMER, but where the"
                + " rest of"
                + " THE BEAT by 4 is 3, it stays. TRAITOR: as EAGER, but from 8 it is 0, too.";
        int[][] due = {{0, 0, 0, 0}, {1, 2, 2, 1}, {7, 8, 8, 7}, {8, 9, 0, 8}, {9, 0, 0, 9}};
        for (int beat = 0; beat <= 8; beat++) {
            for (int[] one : due) {
                Run run = kinds(3, words, 5).toBeat(beat);
                for (int k = 0; k < 6; k++) {
                    run.calls("set(" + k + ", 2, " + one[0] + ")");
                }
                int sleepy = beat % 4 == 3 ? one[3] : one[1];
                run.each(10, one[1], sleepy, one[1], sleepy, one[2], one[1]);
            }
        }
        Run.of(3, words).calls("drummer(1, 5)").toBeat(9999).calls("set(0, 2, 4)").due("told(0, 10)", 4);
        Run.of(3, words).calls("drummer(1, 5)").toBeat(9998).calls("set(0, 2, 4)").due("told(0, 10)", 5);
    }

    private static void toldWorth() {
        String words = "WORTH: DRUMMER: START. SLEEPY: as DRUMMER, and 4. LATE: twice as SLEEPY. EAGER: 20 less START."
                + " TRAITOR: as"
                + " EAGER, less 5. DEAF: 6.";
        kinds(3, words, 1).each(11, 1, 5, 19, 10, 14, 6);
        kinds(3, words, 9).each(11, 9, 13, 11, 26, 6, 6);
        kinds(3, words, 5).law("start 9").each(11, 5, 9, 15, 18, 10, 6);
    }

    private static void toldAsTheOneAbove() {
        String words = "(A KIND that is not named does as the one above it.)";
        kinds(3, words, 1).calls("set(0, 2, 1)", "set(2, 2, 1)", "set(4, 2, 1)").each(8, 0, 1, 0, 1, 0, 1);
        kinds(3, words, 1).calls("set(5, 2, 1)").each(8, 0, 0, 0, 0, 1, 0);
        kinds(3, words, 9).each(9, 9, 9, 9, 8, 9, 9);
        kinds(3, words, 1).each(9, 1, 1, 2, 1, 2, 1);
        Run.of(3, words).calls("drummer(5, 1)", "drummer(3, 1)", "beats(3)", "set(0, 2, 9)", "set(1, 2, 9)").each(10, 0, 9);
    }

    private static void as() {
        String words = "BAD: drummer, kind; KIND: it is not of that KIND, nor of one under it.";
        Run.of(4, words).stays("as(0, 0)", BAD).calls("drummer(0, 9)").stays("as(-1, 0)", BAD).stays("as(0, 0)", 9)
                .stays("as(1, 0)", BAD).stays("as(0, -1)", BAD).stays("as(0, 5)", KIND).stays("as(0, 6)", BAD)
                .stays("as(1, 5)", BAD).stays("as(1, 6)", BAD);
        ten(4, words).stays("as(9, 0)", 5).stays("as(10, 0)", BAD).stays("as(9, 1)", KIND).stays("as(10, 1)", BAD);
        for (String far : FAR_OFF) {
            Run.rich(4, words).stays("as(" + far + ", 0)", BAD).stays("as(0, " + far + ")", BAD);
        }
        String[] under = {"100000", "110000", "101000", "110100", "101010", "100001"};
        Run run = kinds(4, "(all are DRUMMERS)", 7);
        for (int k = 0; k < 6; k++) {
            for (int kind = 0; kind < 6; kind++) {
                run.due("as(" + k + ", " + kind + ")", under[k].charAt(kind) == '1' ? 7 : KIND);
            }
        }
        Run.rich(4, words).stays("as(0, 3)", KIND).stays("as(3, 2)", 7).stays("as(3, 1)", KIND);
    }

    private static void turns() {
        String words = "A DRUMMER is of another KIND from now on: what it was. BAD.";
        Run.of(5, words).stays("turns(0, 0)", BAD).calls("drummer(0, 9)").stays("turns(-1, 1)", BAD)
                .stays("turns(1, 1)", BAD).stays("turns(0, -1)", BAD).stays("turns(0, 6)", BAD).due("turns(0, 5)", 0)
                .stays("turns(0, 5)", 5).due("turns(0, 0)", 5);
        ten(5, words).due("turns(9, 5)", 0).stays("turns(10, 5)", BAD).due("told(9, 0)", 5);
        for (String far : FAR_OFF) {
            Run.rich(5, words).stays("turns(" + far + ", 0)", BAD).stays("turns(0, " + far + ")", BAD);
        }
        Run.rich(5, words).stays("turns(4, 0)", BAD).stays("turns(-1, 0)", BAD).stays("turns(3, 6)", BAD)
                .stays("turns(3, -1)", BAD).due("turns(3, 5)", 4).each(0, 1, 2, 5, 5);
    }

    private static void setOfStarts() {
        Run.rich(6, "START 1 .. 9").stays("set(3, 1, 0)", BAD).due("set(3, 1, 1)", 7).due("set(3, 1, 9)", 1)
                .stays("set(3, 1, 10)", BAD).stays("set(3, 1, -1)", BAD).stays("set(3, 1, MIN)", BAD)
                .stays("set(3, 1, MAX)", BAD).stays("set(3, 1, 9)", 9).each(1, 4, 6, 9, 9);
    }

    private static void setOfCounts() {
        Run.of(6, "COUNT 0 .. 9").calls("drummer(0, 3)").stays("set(0, 2, -1)", BAD).stays("set(0, 2, 0)", 0)
                .due("set(0, 2, 9)", 0).stays("set(0, 2, 10)", BAD).due("set(0, 2, 1)", 9).stays("set(0, 2, MIN)", BAD)
                .stays("set(0, 2, MAX)", BAD).due("told(0, 2)", 1);
        Run.of(6, "START (what 1), COUNT (2), APART (3) of a DRUMMER becomes v: what it was.")
                .calls("drummer(0, 3)", "set(0, 2, 6)").calls("beats(2)").due("set(0, 2, 9)", 8).each(3, 7).each(4, 6)
                .each(5, 0).each(6, NONE).due("beats(1)", 0).each(5, 0);
        Run.rich(6, "COUNT 0 .. 9").stays("set(0, 2, -1)", BAD).stays("set(0, 2, 10)", BAD);
    }

    private static void setOfApart() {
        Run.rich(6, "APART 1 .. 3").stays("set(1, 3, 0)", BAD).due("set(1, 3, 1)", 3).due("set(1, 3, 3)", 1)
                .stays("set(1, 3, 4)", BAD).stays("set(1, 3, -1)", BAD).stays("set(1, 3, MIN)", BAD)
                .stays("set(1, 3, MAX)", BAD).each(7, 2, 3, 1, 1).due("set(3, 3, 3)", 1).each(7, 2, 3, 1, 3);
    }

    private static void setOfWhat() {
        String words = "START (what 1), COUNT (2), APART (3) of a DRUMMER becomes v: what it was. BAD.";
        Run.of(6, words).stays("set(0, 1, 1)", BAD).stays("set(0, 2, 0)", BAD).stays("set(0, 3, 1)", BAD);
        Run.rich(6, words).stays("set(0, 0, 1)", BAD).stays("set(0, 4, 1)", BAD).stays("set(0, -1, 1)", BAD)
                .stays("set(0, MIN, 1)", BAD).stays("set(0, MAX, 1)", BAD).stays("set(-1, 1, 1)", BAD)
                .stays("set(4, 1, 1)", BAD).stays("set(4, 2, 1)", BAD).stays("set(-1, 3, 1)", BAD)
                .stays("set(MIN, 1, 1)", BAD).stays("set(MAX, 1, 1)", BAD);
        ten(6, words).due("set(9, 1, 6)", 5).due("set(9, 2, 6)", 0).due("set(9, 3, 2)", 1).stays("set(10, 1, 6)", BAD);
    }

    private static void miss() {
        Run.rich(7, "MISS is 0 .. 100 (0 at first).").stays("miss(-1)", BAD).due("miss(0)", 30).due("miss(100)", 0)
                .stays("miss(101)", BAD).stays("miss(MIN)", BAD).stays("miss(MAX)", BAD).stays("miss(100)", 100)
                .due("count(2)", 100);
        Run.of(7, "MISS becomes v: what it was. BAD.").stays("miss(-1)", BAD).stays("miss(101)", BAD).due("miss(7)", 0)
                .due("miss(8)", 7);
    }

    /** A z from which the next draw leaves this rest. */
    private static int zFor(int rest, int by, int from) {
        int z = from;
        while ((z * 1103515245 + 12345 >>> 8) % by != rest) {
            z++;
        }
        return z;
    }

    private static void missByLot() {
        String words = "a draw; if its rest by 100 is below MISS, it stays; else it does its STEP.";
        int[][] due = {{0, 0, 5}, {0, 1, 4}, {1, 1, 5}, {1, 2, 4}, {50, 50, 5}, {50, 51, 4}, {98, 98, 5}, {98, 99, 4},
            {99, 99, 5}, {99, 100, 4}, {0, 100, 4}, {99, 0, 5}};
        for (int from : new int[] {0, -2000000000, 2000000000}) {
            for (int[] one : due) {
                Run.of(7, words).calls("drummer(0, 1)", "set(0, 2,"
                        + " 4)", "miss(" + one[1] + ")", "seed(" + zFor(one[0], 100, from) + ")")
                        .stays("behind(0, 1, 0)", one[2]).calls("beats(1)").due("told(0, 2)", one[2]);
            }
        }
        Run.of(7, words).calls("drummer(0, 9)", "drummer(0, 9)", "miss(100)", "set(0, 2, 9)").due("beats(100)", 1)
                .each(2, 9, 9).each(5, 0, 1);
    }

    private static void deal() {
        String words = "DRUMMERS are drawn, n (1 .. 10) of them, as many as there is room for (no draws for others):"
                + " how many came. BAD.";
        Run.of(8, words).stays("deal(0)", BAD).stays("deal(-1)", BAD).stays("deal(11)", BAD).stays("deal(MIN)", BAD)
                .stays("deal(MAX)", BAD).due("deal(1)", 1).due("count(0)", 1).due("count(9)", drawn(1, 2));
        Run.of(8, words).due("deal(10)", 10).due("count(9)", drawn(1, 20)).stays("deal(10)", 0).stays("deal(1)", 0)
                .stays("deal(0)", BAD).stays("deal(11)", BAD).due("count(0)", 10);
        Run.of(8, words).times(9, "drummer(0, 1)").due("deal(10)", 1).due("count(9)", drawn(1, 2)).stays("deal(1)", 0);
        Run.of(8, words).times(8, "drummer(0, 1)").due("deal(2)", 2).due("count(9)", drawn(1, 4)).stays("deal(2)", 0);
        Run.of(8, words).times(8, "drummer(0, 1)").due("deal(3)", 2).due("count(9)", drawn(1, 4)).due("count(0)", 10);
        Run.rich(8, words).stays("deal(0)", BAD).stays("deal(11)", BAD).due("deal(10)", 6).due("count(0)", 10);
    }

    private static int drawn(int z, int times) {
        return times == 0 ? z : drawn(z * 1103515245 + 12345, times - 1);
    }

    private static void dealByLot() {
        String words = "DRUMMERS that are drawn: KIND the rest of a draw by 6, START 1 and that of one more by 9.";
        for (int from : new int[] {0, Integer.MIN_VALUE, -1000000, 2147000000}) {
            for (int kind = 0; kind < 6; kind++) {
                Run.of(8, words).calls("seed(" + zFor(kind, 6, from) + ")").due("deal(1)", 1).due("told(0, 0)", kind);
            }
            for (int start = 1; start <= 9; start++) {
                int z = from;
                while ((drawn(z, 2) >>> 8) % 9 != start - 1) {
                    z++;
                }
                Run.of(8, words).calls("seed(" + z + ")").due("deal(1)", 1).due("told(0, 1)", start)
                        .due("count(9)", drawn(z, 2));
            }
        }
        Run.of(8, words).due("deal(1)", 1).each(2, 0).each(3, 0).each(4, 0).each(5, 0).each(6, NONE).each(7, 1);
    }

    private static void seed() {
        Run.of(9, "z becomes v: what it was.").due("seed(MIN)", 1).due("seed(MAX)", Integer.MIN_VALUE)
                .due("seed(0)", Integer.MAX_VALUE).due("seed(-1)", 0).stays("seed(-1)", -1).due("count(9)", -1);
        for (int z : new int[] {Integer.MIN_VALUE, Integer.MAX_VALUE, 0, -1, 1}) {
            Run.of(9, "A draw: z becomes z * 1103515245 + 12345 (an int); it gives z >>> 8.")
                    .calls("seed(" + z + ")", "drummer(0, 1)").calls("set(0, 2, 1)", "miss(50)", "beats(1)")
                    .due("count(9)", drawn(z, 1)).due("told(0, 2)", (drawn(z, 1) >>> 8) % 100 < 50 ? 1 : 2);
        }
        Run.rich(9, "z becomes v: what it was.").calls("seed(3)").due("seed(BAD)", 3).due("count(9)", BAD);
    }
}
