/** The document's section "Terms", sentence by sentence. */
final class DocumentTerms {
    private static final int BAD = OneStroke.BAD, NO = OneStroke.NO, FULL = OneStroke.FULL, NONE = OneStroke.NONE,
            NOTHING = OneStroke.NOTHING, KIND = OneStroke.KIND, INDEX = OneStroke.INDEX, SIZE = OneStroke.SIZE;

    private DocumentTerms() {
    }

    static void read(Document doc) {
        all(doc);
        drummers(doc);
        kinds(doc);
        sounds(doc);
        wakes(doc);
        steps(doc);
        worth(doc);
        aBeat(doc);
        strikes(doc);
        draws(doc);
        behind(doc);
        thoughts(doc);
        far(doc);
        texts(doc);
        levels(doc);
        names(doc);
        signs(doc);
        faults(doc);
        gives(doc);
        sheets(doc);
        findings(doc);
        images(doc);
    }

    private static Run line(Run run, int... starts) {
        return DocumentTest.line(run, starts);
    }

    private static Run kinds(Run run, int start) {
        return DocumentTest.kinds(run, start);
    }

    /** COUNTS of the DRUMMERS from 0 on become these. */
    private static Run counts(Run run, int... counts) {
        for (int k = 0; k < counts.length; k++) {
            run.calls("set(" + k + ", 2, " + counts[k] + ")");
        }
        return run;
    }

    /** What a TEXT of fine gives, on a new object. */
    private static void fine(Run run, String expression, int want) {
        run.law("fine " + expression).due("fine()", want);
    }

    private static void fault(Run run, String signs, int place) {
        run.tape(signs).due("text()", -100 - place).due("count(6)", 0);
    }

    // ---- ahead of the parts

    private static void all(Document doc) {
        doc.says(26, "All numbers are whole; / cuts towards 0.").law("fine 7/2").due("fine()", 3).law("fine (0-7)/2")
                .due("fine()", -3).law("fine 7/(0-2)").due("fine()", -3).law("fine 1/2*2").due("fine()", 0);
        doc.also(37).calls("lay(0, 3, -7)").due("rest(0, 2)", -1);
        doc.says(30, "A call that is refused answers one of BAD, NO, FULL, or a FINDING, of several the one that"
                + " stands first with it,").stays("mark(4, -1, NONE)", BAD).stays("mark(0, -1, NONE)", NOTHING)
                .calls("sheet(0, 0, 1)").stays("mark(0, -1, NONE)", INDEX).stays("mark(0, 0, NONE)", KIND)
                .calls("sheet(0, 1, 1)").stays("mark(0, 1, 100000)", INDEX).stays("mark(0, 0, 100000)", BAD);
        line(doc.also(10), 3).calls("order(0)").stays("order(1)", BAD).stays("order(0)", NO);
        line(doc.also(2), 1, 1, 1, 1, 1, 1, 1, 1, 1, 1).stays("drummer(6, 1)", BAD).stays("drummer(0, 1)", FULL);
        doc.also(29).stays("sheet(4, 0, -1)", BAD).stays("sheet(0, 0, -1)", SIZE);
        doc.comes("and changes nothing (but the tape and the numbers that wait, where told).");
        doc.rich(8).stays("deal(0)", BAD).stays("deal(11)", BAD);
        doc.rich(26).tape("start s+").usesTape("text()", -108);
        doc.rich(39).usesNumbers("check(31)", BAD);
        doc.says(14, "NONE: there is none.").stays("soon()", NONE).stays("all()", NONE).stays("spread(9)", NONE)
                .stays("toWhom(9)", NONE).stays("mend(9, 0)", NONE).stays("why(0)", NONE).calls("sheet(0, 0, 0)")
                .stays("miscounted(0, 9, 0)", NONE).calls("drummer(0, 1)").stays("told(0, 6)", NONE)
                .stays("reads(0, 0)", NONE);
        line(doc.says(20, "Sets of DRUMMERS are told as bits (bit k for number k)."), 1, 1, 1, 1)
                .due("reach(1, 0)", 2).due("reach(0, 1)", 3).due("reach(2, 1)", 14).due("reach(3, 1)", 12);
    }

    // ---- 1 DRUMMERS

    private static void drummers(Document doc) {
        Run ten = doc.says(2, "DRUMMERS, 10 at most, numbered from 0 along the line:");
        for (int k = 0; k < 10; k++) {
            ten.due("drummer(0, 1)", k);
        }
        ten.due("drummer(0, 1)", FULL).calls("set(4, 2, 1)").each(8, 0, 0, 0, 1, 0, 1, 0, 0, 0, 0);
        Run starts = doc.says(6, "START 1 .. 9,").calls("drummer(0, 9)");
        for (int k = 1; k <= 9; k++) {
            starts.due("set(0, 1, " + k + ")", k == 1 ? 9 : k - 1);
        }
        starts.due("set(0, 1, 0)", BAD).due("set(0, 1, 10)", BAD).each(1, 9);
        Run counts = doc.says(6, "COUNT 0 .. 9 (0 at first: still),").calls("drummer(0, 5)").due("told(0, 2)", 0)
                .due("count(4)", 0).calls("beats(9)").each(2, 0);
        for (int k = 0; k <= 9; k++) {
            counts.due("set(0, 2, " + k + ")", k == 0 ? 0 : k - 1);
        }
        counts.due("set(0, 2, -1)", BAD).due("set(0, 2, 10)", BAD).each(2, 9);
        line(doc.says(3, "what it was 1 and 2 BEATS ago (0 at first),"), 3).each(3, 0).each(4, 0)
                .calls("order(0)", "beats(1)").each(3, 3).each(4, 0).calls("beats(1)").each(3, 4).each(4, 3);
        line(doc.says(3, "STROKES (how often it struck; 0),"), 9).each(5, 0).law("hear 1").calls("beats(7)").each(5, 4);
        line(doc.says(3, "FIRST (THE BEAT of its first stroke; none at first),"), 6).each(6, NONE)
                .calls("beats(2)", "order(0)", "beats(2)").each(6, NONE).calls("beats(1)").each(6, 5)
                .calls("set(0, 2, 8)", "beats(1)").each(5, 2).each(6, 5);
        line(doc.says(6, "APART 1 .. 3 (BEATS that a sound takes to the next one; 1 at first),"), 1, 1)
                .due("far(0, 1)", 1).due("set(0, 3, 2)", 1).due("far(0, 1)", 2).due("set(0, 3, 3)", 2)
                .due("far(0, 1)", 3).due("set(0, 3, 4)", BAD).due("set(0, 3, 0)", BAD).each(7, 3, 1);
        kinds(doc.says(4, "and of KINDS: 0 DRUMMER; 1 SLEEPY, 2 EAGER, 5 DEAF, under DRUMMER; 3 LATE, under SLEEPY; 4"
                + " TRAITOR, under EAGER (all are DRUMMERS)."), 5).each(0, 0, 1, 2, 3, 4, 5);
    }

    private static void kinds(Document doc) {
        String[] isOf = {"100000", "110000", "101000", "110100", "101010", "100001"};
        Run run = kinds(doc.also(4), 7);
        for (int one = 0; one < 6; one++) {
            for (int kind = 0; kind < 6; kind++) {
                run.due("as(" + one + ", " + kind + ")", isOf[one].charAt(kind) == '1' ? 7 : KIND);
            }
        }
        doc.says(7, "MISS is 0 .. 100 (0 at first).").due("count(2)", 0).due("miss(100)", 0).due("miss(101)", BAD)
                .due("miss(-1)", BAD).due("miss(0)", 100);
        doc.says(12, "THE BEAT is 0 at first, 9999 at most.").due("count(1)", 0).toBeat(9950).due("beats(100)", 0)
                .due("count(1)", 9999).due("beats(1)", 0).due("count(1)", 9999);
    }

    /** 0 counts 4, 5, 6 and 1 counts 7, 8, 9; with APART k, SOUND is what either was k - 1 BEATS ago. */
    private static void sounds(Document doc) {
        doc.comes("SOUND of a neighbour: what its COUNT was APART less 1 BEATS ago (APART of the lesser one of both);"
                + " 0 without one.");
        for (int apart = 1; apart <= 3; apart++) {
            Run run = counts(line(doc.also(3), 1, 1, 1).law("hear 0"), 4, 7).calls("beats(2)")
                    .calls("set(0, 3, " + apart + ")", "set(1, 3, " + (4 - apart) + ")");
            run.law("hear l=" + (7 - apart)).each(8, 0, 1, 0).law("hear r=" + (10 - apart)).each(8, 1, 0, 0)
                    .law("hear l=" + (6 + apart)).each(8, 0, 0, 1).law("hear l=0").each(8, 1, 0, 0).law("hear r=0")
                    .each(8, 0, 1, 1);
        }
        line(doc.says(3, "HEARS: DRUMMER: if hear gives what is not 0"), 1, 1, 1).law("hear n-1").each(8, 1, 0, 1)
                .law("hear 0").calls("set(1, 2, 5)").each(8, 0, 0, 0);
        line(doc.says(3, "(without a TEXT: if SOUND of one neighbour at least is above 0)."), 1, 1, 1).each(8, 0, 0, 0)
                .calls("set(1, 2, 1)").each(8, 1, 0, 1).calls("set(2, 2, 1)").each(8, 1, 1, 1);
        Run deaf = doc.says(3, "DEAF: if SOUND of its neighbour with the lesser number is above 0.")
                .times(3, "drummer(5, 1)").calls("set(1, 2, 1)");
        deaf.each(8, 0, 0, 1).law("hear 1").each(8, 0, 0, 1).law("hear 0").each(8, 0, 0, 1);
    }

    private static void wakes(Document doc) {
        line(doc.says(3, "WAKES to: DRUMMER: START, as start gives it, held within 1 .. 9"), 5, 5).law("start s+n*2")
                .each(9, 5, 7).law("start s+n*5").each(9, 5, 9).law("start s-n*5").each(9, 5, 1).each(1, 5, 5)
                .due("order(1)", 1);
        line(doc.says(3, "(without a TEXT: START)."), 1, 6, 9).each(9, 1, 6, 9);
        doc.says(3, "LATE: as SLEEPY, less 1 (1 at least).").calls("drummer(3, 9)", "drummer(3, 2)", "drummer(3, 1)")
                .each(9, 8, 1, 1).law("start s*2").each(9, 8, 3, 1);
        doc.says(3, "EAGER: as DRUMMER, and 1 (9 at most).").calls("drummer(2, 1)", "drummer(2, 8)", "drummer(2, 9)")
                .each(9, 2, 9, 9).law("start s/2").each(9, 2, 5, 5);
    }

    private static void steps(Document doc) {
        doc.comes("STEP from a COUNT above 0: DRUMMER: 1 more; from 9 it is 0.");
        for (int count = 0; count <= 9; count++) {
            counts(line(doc.also(3), 5), count).due("told(0, 10)", count == 0 || count == 9 ? 0 : count + 1);
        }
        Run sleepy = doc.says(3, "SLEEPY: as DRUMMER, but where the rest of THE BEAT by 4 is 3, it stays.")
                .calls("drummer(1, 1)", "order(0)");
        int[] counts = {2, 3, 4, 4, 5, 6, 7, 7, 8, 9, 0};
        for (int k = 0; k < counts.length; k++) {
            sleepy.due("told(0, 10)", counts[k]).calls("beats(1)").each(2, counts[k]);
        }
        doc.comes("TRAITOR: as EAGER, but from 8 it is 0, too.");
        for (int count = 0; count <= 9; count++) {
            counts(doc.also(3).calls("drummer(4, 5)"), count)
                    .due("told(0, 10)", count == 0 || count >= 8 ? 0 : count + 1);
        }
    }

    private static void worth(Document doc) {
        worth(doc, "WORTH: DRUMMER: START.", 0, 2, 9);
        worth(doc, "SLEEPY: as DRUMMER, and 4.", 1, 6, 13);
        worth(doc, "LATE: twice as SLEEPY.", 3, 12, 26);
        worth(doc, "EAGER: 20 less START.", 2, 18, 11);
        worth(doc, "TRAITOR: as EAGER, less 5.", 4, 13, 6);
        worth(doc, "DEAF: 6.", 5, 6, 6);
        doc.comes("(A KIND that is not named does as the one above it.)");
        kinds(doc.also(3), 4).each(9, 4, 4, 5, 3, 5, 4).law("hear 7").each(8, 1, 1, 1, 1, 1, 0).toBeat(3)
                .calls("hush()", "set(2, 2, 8)", "set(3, 2, 8)", "set(5, 2, 8)").each(10, 0, 0, 9, 8, 0, 9);
    }

    private static void worth(Document doc, String words, int kind, int of2, int of9) {
        doc.says(3, words).calls("drummer(" + kind + ", 2)", "drummer(" + kind + ", 9)").each(11, of2, of9);
        doc.also(35).calls("drummer(" + kind + ", 9)", "lay(0, 1, 0)").due("ask(0, 0)", of9);
    }

    // ---- 2 A BEAT

    private static void aBeat(Document doc) {
        counts(line(doc.says(12, "A BEAT: what HEARS is asked of all as it is;"), 5, 5, 5), 1, 0, 0).calls("beats(1)")
                .each(2, 2, 5, 0);
        counts(line(doc.also(12), 5, 5, 5), 0, 9, 0).calls("beats(1)").each(2, 5, 0, 5);
        counts(line(doc.also(12), 5, 5, 5), 0, 0, 1).calls("beats(1)").each(2, 0, 5, 2);
        line(doc.says(12, "then of each, by numbers: COUNT 0: if it HEARS, COUNT is what it WAKES to;"), 3, 4)
                .law("hear n=1").law("start s+b").calls("beats(2)").each(2, 0, 5)
                .due("count(9)", DocumentTest.drawn(1, 1));
        int z = 0;
        while ((DocumentTest.drawn(z, 1) >>> 8) % 100 >= 30 || (DocumentTest.drawn(z, 2) >>> 8) % 100 != 30) {
            z++;
        }
        counts(line(doc.says(12, "above 0: a draw; if its rest by 100 is below MISS, it stays; else it does its STEP."),
                5, 5, 5), 2, 0, 2).law("hear 0").calls("miss(30)", "seed(" + z + ")", "beats(1)").each(2, 2, 0, 3)
                .due("count(9)", DocumentTest.drawn(z, 2));
        doc.says(12, "THE BEAT is 1 more;").calls("beats(1)").due("count(1)", 1).calls("beats(5)").due("count(1)", 6);
        counts(line(doc.says(12, "all COUNTS come one BEAT farther back."), 5, 5), 7, 0).calls("beats(1)").each(3, 7, 0)
                .each(4, 0, 0).calls("beats(1)").each(3, 8, 5).each(4, 7, 0).calls("beats(1)").each(3, 9, 6)
                .each(4, 8, 5);
    }

    private static void strikes(Document doc) {
        counts(line(doc.says(12, "Those with COUNT 9 then strike, if their COUNT was another one ahead of this BEAT:"),
                5, 5, 9), 8, 9, 0).due("beats(1)", 2).each(2, 9, 0, 9).each(5, 1, 0, 1);
        counts(doc.also(12).calls("drummer(1, 1)").toBeat(3), 9).due("beats(1)", 0).each(2, 9).each(5, 0);
        counts(line(doc.says(12, "STROKES 1 more, FIRST is THE BEAT, if it has none."), 5).toBeat(7), 8)
                .calls("beats(1)").each(5, 1).each(6, 8).calls("set(0, 2, 8)", "beats(1)").each(5, 2).each(6, 8);
        doc.says(10, "AN ORDER to one: if its COUNT is 0, it is what it WAKES to (no stroke).").calls("drummer(2, 8)")
                .due("order(0)", 9).each(5, 0).each(6, NONE).due("count(1)", 0).due("order(0)", NO)
                .due("beats(1)", 0).each(2, 0);
    }

    private static void draws(Document doc) {
        doc.says(9, "z is told (1 at first).").due("count(9)", 1).due("seed(-5)", 1).due("count(9)", -5);
        doc.comes("A draw: z becomes z * 1103515245 + 12345 (an int); it gives z >>> 8.");
        counts(line(doc.also(12), 5), 1).calls("beats(1)").due("count(9)", 1103527590).calls("beats(1)")
                .due("count(9)", -1770082073);
        // A z below 0 gives a number above 0: 12345 less 1103515245 is -1103502900, which gives 12466657.
        doc.also(8).calls("seed(-1)", "deal(1)").due("told(0, 0)", 12466657 % 6);
        Run dealt = doc.says(8, "DRUMMERS that are drawn: KIND the rest of a draw by 6, START 1 and that of one more"
                + " by 9.").calls("seed(100)", "deal(10)");
        for (int k = 0; k < 10; k++) {
            dealt.due("told(" + k + ", 0)", (DocumentTest.drawn(100, 2 * k + 1) >>> 8) % 6)
                    .due("told(" + k + ", 1)", 1 + (DocumentTest.drawn(100, 2 * k + 2) >>> 8) % 9);
        }
    }

    // ---- 3 what is only thought

    private static void behind(Document doc) {
        doc.comes("(All this is only thought, from now on, z as it is, without the bound of THE BEAT: nothing"
                + " changes.)");
        String[] thoughts = {"behind(1, 50, 1)", "soon()", "all()", "spread(50)", "toWhom(50)", "mend(40, 2)",
            "miscounted(0, 50, 1)", "reads(0, 1)"};
        for (String one : thoughts) {
            doc.rich(13).calls("hush()", "order(1)").changesNothing(one);
        }
        counts(line(doc.also(13), 5).toBeat(9998), 1).due("behind(0, 8, 2)", 1);
        for (int seed = 0; seed < 20; seed++) {
            comesTrue(doc, seed);
        }
        counts(line(doc.says(13, "BEHIND n BEATS: COUNT of one;"), 5, 5), 6, 0).due("behind(0, 0, 0)", 6)
                .due("behind(0, 2, 0)", 8).due("behind(1, 2, 0)", 6);
        line(doc.says(13, "how many STROKES it made in them;"), 9).law("hear 1").calls("beats(4)").each(5, 2)
                .due("behind(0, 3, 1)", 2).due("behind(0, 4, 1)", 2).due("behind(0, 5, 1)", 3)
                .due("behind(0, 0, 1)", 0);
        counts(line(doc.says(13, "how many strike in the last one (0 without)."), 5, 5, 5), 8, 7, 8).law("hear 0")
                .due("behind(0, 1, 2)", 2).due("behind(0, 2, 2)", 1).due("behind(1, 3, 2)", 0)
                .due("behind(1, 0, 2)", 0);
    }

    /** What is thought of 1 to 12 BEATS is what these BEATS bring, missed ones too. */
    private static void comesTrue(Document doc, int seed) {
        OneStroke x = new OneStroke();
        x.seed(seed);
        x.deal(10);
        x.miss(20);
        x.order(seed % 10);
        x.beats(1 + seed);
        Run run = doc.also(13).calls("seed(" + seed + ")", "deal(10)", "miss(20)", "order(" + seed % 10 + ")",
                "beats(" + (1 + seed) + ")");
        int[] strokes = new int[10];
        for (int k = 0; k < 10; k++) {
            strokes[k] = x.told(k, 5);
        }
        for (int n = 1; n <= 12; n++) {
            int striking = x.beats(1);
            for (int k = 0; k < 10; k++) {
                run.due("behind(" + k + ", " + n + ", 0)", x.told(k, 2));
                run.due("behind(" + k + ", " + n + ", 1)", x.told(k, 5) - strokes[k]);
            }
            run.due("behind(0, " + n + ", 2)", striking);
        }
    }

    private static void thoughts(Document doc) {
        counts(line(doc.says(14, "SOON: behind how many BEATS (1 .. 100) some strike first."), 5, 5), 3, 5)
                .due("soon()", 4).calls("beats(4)").due("soon()", 2);
        counts(line(doc.says(15, "ALL: behind how many BEATS (1 .. 100) all strike at once first."), 9, 9), 9, 8)
                .due("all()", NONE).calls("set(1, 2, 9)").law("hear 1").due("all()", 2);
        counts(line(doc.says(16, "SPREAD in n BEATS: of each the first BEAT (of these n) in which it strikes: the"
                + " greatest less the least; none, if one does not."), 5, 5, 5), 8, 2, 5).law("hear 0")
                .due("spread(7)", 6).due("spread(6)", NONE).calls("beats(1)").due("spread(50)", NONE);
        line(doc.says(17, "TO WHOM in n BEATS: of those whose COUNT is 0 the one by an ORDER to whom now SPREAD is"
                + " least (there must be one); of several the least."), 5, 4, 5).due("toWhom(30)", 1)
                .due("toWhom(5)", 1).due("toWhom(4)", NONE);
        line(doc.also(17), 5, 5).due("toWhom(30)", 0).calls("order(0)").due("toWhom(30)", 1).calls("order(1)")
                .due("toWhom(30)", NONE);
        counts(line(doc.says(18, "MEND in n BEATS: a DRUMMER and a START with which most strike in one BEAT, and more"
                + " than as it is; of several the least DRUMMER, then the least START."), 1, 1, 1), 0, 7, 0)
                .due("mend(2, 0)", 0).due("mend(2, 1)", 8).due("mend(2, 2)", 2).due("mend(1, 0)", 0)
                .due("mend(1, 1)", 9).due("mend(1, 2)", 1).calls("set(0, 1, 8)").due("mend(2, 0)", 2)
                .due("mend(2, 2)", 3).calls("set(2, 1, 8)").due("mend(2, 0)", NONE);
        line(doc.also(18), 5, 5, 5, 5, 5, 5, 5, 5, 5, 5).law("hear n=9").law("start 10-s").due("mend(1, 0)", 9)
                .due("mend(1, 1)", 1).due("mend(1, 2)", 1);
    }

    private static void far(Document doc) {
        line(doc.says(19, "FAR of two: BEATS that a sound takes from the one to the other (0 of one and"
                + " itself)."), 1, 1,
                1, 1).calls("set(0, 3, 3)", "set(2, 3, 2)").due("far(0, 3)", 6).due("far(3, 0)", 6).due("far(1, 3)", 3)
                .due("far(2, 2)", 0);
        line(doc.says(20, "WITHIN n of one: all that are n or less FAR."), 1, 1, 1, 1)
                .calls("set(0, 3, 3)", "set(2, 3, 2)").due("reach(1, 0)", 2).due("reach(1, 1)", 6)
                .due("reach(1, 2)", 6).due("reach(1, 3)", 15);
        line(doc.says(21, "EDGE of one: the greatest FAR of all from it."), 1, 1, 1, 1)
                .calls("set(0, 3, 3)", "set(2, 3, 2)").due("edge(0)", 6).due("edge(1)", 3).due("edge(2)", 4)
                .due("edge(3)", 6);
        line(doc.says(22, "MISCOUNTED by a SHEET, n: the one with whose START 1 more (9: 1) first BEATS (of n; 0 of"
                + " one that does not strike) of DRUMMERS k and places k that are numbers differ least (signs left"
                + " out; places beyond all DRUMMERS: 0), together; of several the least."), 9, 5, 5).law("hear n<2")
                .row(0, 1, "9", "5", "0").due("miscounted(0, 20, 0)", 0).due("miscounted(0, 20, 1)", 0)
                .row(0, 1, "1", "4", "0").due("miscounted(0, 20, 0)", 1).due("miscounted(0, 20, 1)", 0)
                .row(0, 1, "1", "5", "0").due("miscounted(0, 20, 0)", 2).due("miscounted(0, 20, 1)", 0)
                .row(0, 1, "NONE", "5").due("miscounted(0, 20, 0)", 0).due("miscounted(0, 20, 1)", 0)
                .row(0, 1, "1", "NONE", "-3").due("miscounted(0, 20, 0)", 1).due("miscounted(0, 20, 1)", 3);
        // From now on: BEAT 1 of these n is the next one, whatever THE BEAT is.
        counts(line(doc.also(22), 5, 5, 5).law("hear 0").toBeat(50), 6, 7).row(0, 0, "3", "2", "0")
                .due("miscounted(0, 20, 1)", 0);
        Run ten = line(doc.also(22), 5, 5, 5, 5, 5, 5, 5, 5, 5, 5).calls("sheet(0, 0, 24)", "mark(0, 23, 8)");
        ten.due("miscounted(0, 20, 0)", 0).due("miscounted(0, 20, 1)", 8).calls("set(9, 2, 7)")
                .law("hear 0").due("miscounted(0, 20, 1)", 10);
    }

    // ---- 4 TEXTS

    private static void texts(Document doc) {
        Run fourteen = doc.says(26, "TEXTS, 14 at most, numbered from 0,");
        for (int k = 0; k < 14; k++) {
            fourteen.tape("fine " + k).due("text()", k);
        }
        fourteen.tape("fine 14").due("text()", FULL).due("fine()", 13);
        doc.says(24, "from THE TAPE (96 bytes at most;").tape("fine " + "1+".repeat(45) + "1").due("count(8)", 96)
                .due("feed(0, 0, 0)", FULL).due("text()", 0).due("fine()", 46);
        doc.says(26, "an act that reads it uses it up, whatever it answers):").tape("fine 1").due("text()", 0)
                .due("count(8)", 0).tape("fine").due("text()", -104).due("count(8)", 0).due("text()", -100);
        doc.says(26, "KEY E.").tape("fine 1").due("text()", 0).tape("1 fine").due("text()", -100).tape("fine fine")
                .due("text()", -105);
        doc.says(26, "KEY: hear | start | fine.").tape("hear 1").due("text()", 0).tape("start 1").due("text()", 1)
                .tape("fine 1").due("text()", 2).tape("bear 1").due("text()", -100).tape("hea 1").due("text()", -100)
                .tape("starts 1").due("text()", -100);
    }

    /** By each sentence of E, what binds tighter and that a row goes on from its left. */
    private static void levels(Document doc) {
        doc.comes("E, the loosest first:");
        fine(doc.also(26), "1|0&0", 1);
        fine(doc.also(26), "0&1<2|3", 1);
        fine(doc.also(26), "1&2>1&1", 1);
        fine(doc.also(26), "5=2+3", 1);
        fine(doc.also(26), "2+3*4", 14);
        fine(doc.also(26), "!0*3", 3);
        fine(doc.also(26), "!(2-2)+7", 8);
        doc.comes("OR: AND { | AND };");
        fine(doc.also(26), "0|0", 0);
        fine(doc.also(26), "0|0|3", 1);
        doc.comes("AND: TEST { & TEST };");
        fine(doc.also(26), "2&3&4", 1);
        fine(doc.also(26), "2&3&0", 0);
        doc.comes("TEST: SUM [ (< | = | >) SUM ];");
        fine(doc.also(26), "(1<2)+(2<2)*10+(3<2)*100", 1);
        fine(doc.also(26), "(1=2)+(2=2)*10+(3=2)*100", 10);
        fine(doc.also(26), "(1>2)+(2>2)*10+(3>2)*100", 100);
        fault(doc.also(26), "fine 1<2<3", 8);
        fault(doc.also(26), "fine 1=2>3", 8);
        doc.comes("SUM: TERM { (+ | -) TERM };");
        fine(doc.also(26), "9-4-3", 2);
        fine(doc.also(26), "9-4+3-1", 7);
        doc.comes("TERM: PIECE { (* | /) PIECE };");
        fine(doc.also(26), "90/3/5", 6);
        fine(doc.also(26), "7/2*2", 6);
        doc.comes("PIECE: NUMBER (1 to 4 digits) | NAME | ! PIECE | ( E ).");
        fine(doc.also(26), "0007+9999", 10006);
        fine(doc.also(26), "!!7+!(!b)*10", 1);
        fine(doc.also(26), "((1|2)+3)*4", 16);
        fault(doc.also(26), "fine -1", 5);
        fault(doc.also(26), "fine ()", 6);
        fault(doc.also(26), "fine 1!", 6);
    }

    private static void names(Document doc) {
        counts(line(doc.says(26, "NAMES, each one letter: of hear l SOUND of the neighbour with the lesser number, r"
                + " that of the other one, n its number;"), 1, 1, 1), 3, 0, 5).law("hear l=3").each(8, 0, 1, 0)
                .law("hear r=5").each(8, 0, 1, 0).law("hear n=2").each(8, 0, 0, 1).law("hear l+r+n=9").each(8, 0, 1, 0);
        line(doc.says(26, "of start s START, n its number, b THE BEAT;"), 4, 6).law("start s").each(9, 4, 6)
                .law("start n+1").each(9, 1, 2).toBeat(7).law("start b").each(9, 7, 7).law("start s*10-n*10-b*5-2")
                .each(9, 3, 9);
        counts(line(doc.says(23, "of fine m how many STROKES there were in all, b THE BEAT (what fine gives is told"
                + " by fine(); without a TEXT: m)."), 1, 1), 8, 8).due("fine()", 0).calls("beats(3)").due("fine()", 2)
                .law("fine m*10+b").due("fine()", 23);
        String[] strange = {"hear s", "hear b", "hear m", "start l", "start r", "start m", "fine l", "fine r", "fine s",
            "fine n", "fine x", "fine mb"};
        for (String one : strange) {
            fault(doc.also(26), one, one.indexOf(' ') + 1);
        }
    }

    private static void signs(Document doc) {
        doc.comes("A word is a row of letters a .. z, or of digits, as long as it goes; any other byte is a sign by"
                + " itself.");
        fault(doc.also(26), "finem", 0);
        fault(doc.also(26), "fine mm", 5);
        fault(doc.also(26), "fine ma", 5);
        fault(doc.also(26), "fine mz", 5);
        fault(doc.also(26), "Fine m", 0);
        fault(doc.also(26), "fine m~", 6);
        fault(doc.also(26), "fine m" + (char) 0, 6);
        fault(doc.also(26), "fine " + (char) 233, 5);
        fault(doc.also(26), "fine\tm", 4);
        fault(doc.also(26), "fine 1<=2", 7);
        doc.comes("Between words and signs, and at the ends, there may be blanks (byte 32); a word right behind"
                + " another one needs one.");
        doc.also(26).law("  fine   ( 1 + 2 ) * 3  ").due("fine()", 9);
        doc.also(26).law("fine(1+2)*3").due("fine()", 9);
        doc.also(26).law("fine!0").due("fine()", 1);
        fault(doc.also(26), "fine1", 4);
        fault(doc.also(26), "fine 1 2", 7);
    }

    private static void faults(Document doc) {
        doc.comes("FAULT: the first byte of the first word or sign with which no TEXT goes on");
        fault(doc.also(26), "fine  1 + + 2 )", 10);
        fault(doc.also(26), "fine (1+2))+(", 10);
        fault(doc.also(26), "  hear  start", 8);
        doc.comes("(a word that needs a blank ahead of it,");
        fault(doc.also(26), "hear9", 4);
        fault(doc.also(26), "hear l9", 6);
        doc.comes("a NUMBER of more than 4 digits,");
        fault(doc.also(26), "fine 1+12345", 7);
        fault(doc.also(26), "fine 00000", 5);
        doc.comes("the ninth ( that would be open within others,");
        fine(doc.also(26), "(".repeat(8) + "6" + ")".repeat(8), 6);
        fault(doc.also(26), "fine " + "(".repeat(9) + "6" + ")".repeat(9), 13);
        fine(doc.also(26), "(((1)))+((((2))))+((((3))))", 6);
        doc.comes("the ninth ! likewise, each by itself);");
        fine(doc.also(26), "!".repeat(8) + "6", 1);
        fault(doc.also(26), "fine " + "!".repeat(9) + "6", 13);
        fine(doc.also(26), "!!!!!6+!!!!!6+!!!!!!6", 1);
        fine(doc.also(26), "!(".repeat(8) + "6" + ")".repeat(8), 1);
        fault(doc.also(26), "fine " + "!(".repeat(8) + "!6" + ")".repeat(8), 21);
        fault(doc.also(26), "fine " + "(!".repeat(8) + "(6" + ")".repeat(9), 21);
        doc.comes("the end (the place behind the last byte), if it comes too soon.");
        fault(doc.also(26), "fine 1+", 7);
        fault(doc.also(26), "fine (1  ", 9);
        fault(doc.also(26), "", 0);
        fault(doc.also(26), "   ", 3);
    }

    private static void gives(Document doc) {
        doc.comes("Ints wrap; / is 0 by 0;");
        fine(doc.also(26), "9999*9999*9999", 9999 * 9999 * 9999);
        fine(doc.also(26), "7/0+(3-7)/0", 0);
        fine(doc.also(26), "(0-8192*8192*32)/(0-1)", Integer.MIN_VALUE);
        doc.comes("tests, & | ! give 1 or 0 (what is not 0 is true; both sides are worked out).");
        fine(doc.also(26), "(7>5)+(7&5)*10+(7|5)*100+!7*1000+!0*2000", 2111);
        fine(doc.also(26), "(0-1&0-1)+(0-1|0)*10+!(0-1)*100", 11);
        fine(doc.also(26), "(0&1/0)+(1|1/0)*10+(1/0|0)*100", 10);
        doc.says(28, "Of a KEY that TEXT counts that was told last.").law("fine 4").law("hear 1").law("fine 5")
                .due("fine()", 5).due("why(2)", 2).due("why(0)", 1).law("fine 4").due("fine()", 4).due("why(2)", 3);
    }

    // ---- 5 SHEETS and SLOTS

    private static void sheets(Document doc) {
        Run sheets = doc.says(29, "SHEETS 0 .. 3 are rows of shorts (sort 0) or floats (1; whole numbers), with 0 to"
                + " 24 places, or MISSING (at first).");
        for (int k = 0; k < 4; k++) {
            sheets.due("pour(" + k + ")", NOTHING).due("sheet(" + k + ", " + k % 2 + ", " + 8 * k + ")", 8 * k)
                    .due("pour(" + k + ")", 0);
        }
        sheets.due("sheet(4, 0, 1)", BAD).due("mark(2, 15, 40000)", 1).due("mark(3, 23, 40000)", 1)
                .calls("lay(0, 2, 2)", "lay(1, 2, 3)").due("item(0, 15)", -25536).due("item(1, 23)", 40000);
        doc.says(30, "A place of floats may be NO NUMBER.").row(0, 1, "NONE", "0").places(0, KIND, 0)
                .due("mark(0, 0, 3)", 1).places(0, 3, 0).calls("sheet(0, 0, 1)").due("mark(0, 0, NONE)", KIND);
        Run slots = line(doc.says(34, "SLOTS 0 .. 4 each hold nothing (at first), a DRUMMER (as it is then, for"
                + " good), a SHEET (a row of its own, as it was then), or a number."), 4).row(0, 0, "7");
        for (int k = 0; k < 5; k++) {
            slots.due("item(" + k + ", 0)", NOTHING);
        }
        slots.calls("lay(0, 1, 0)", "lay(1, 2, 0)", "lay(2, 3, 9)", "set(0, 1, 5)", "turns(0, 5)", "mark(0, 0, 8)")
                .due("ask(0, 0)", 4).due("item(1, 0)", 7).due("rest(2, 10)", 9).calls("sheet(0, -1, 0)")
                .due("item(1, 0)", 7).due("lay(5, 3, 9)", BAD);
        doc.also(34).calls("keep()", "drummer(3, 4)", "lay(0, 1, 0)", "back()").due("ask(0, 0)", 16);
    }

    private static void findings(Document doc) {
        doc.says(34, "FINDINGS: NOTHING: a SHEET is MISSING, a SLOT holds nothing;").stays("lay(0, 2, 1)", NOTHING)
                .stays("mark(1, 0, 0)", NOTHING).stays("copy(1, 0, 1, 0, 0)", NOTHING).stays("rest(1, 5)", NOTHING)
                .stays("ask(1, 0)", NOTHING).stays("item(1, 0)", NOTHING);
        doc.says(33, "INDEX: there is no such place;").row(0, 0, "1", "2").stays("mark(0, 2, 0)", INDEX)
                .stays("mark(0, -1, 0)", INDEX).stays("copy(0, 1, 0, 0, 2)", INDEX).stays("copy(0, 0, 0, 1, 2)", INDEX)
                .calls("lay(0, 2, 0)").stays("item(0, 2)", INDEX);
        doc.says(29, "SIZE: a number of places is below 0;").stays("sheet(0, 0, -1)", SIZE)
                .stays("sheet(0, 1, MIN)", SIZE).stays("pour(0)", NOTHING);
        line(doc.says(35, "KIND: it is none (of a KIND, a number, or another thing)."), 4).row(0, 1, "NONE")
                .calls("lay(0, 1, 0)", "lay(1, 2, 0)", "lay(2, 3, 0)", "sheet(1, 0, 1)").stays("as(0, 1)", KIND)
                .stays("ask(0, 1)", KIND).stays("ask(1, 0)", KIND).stays("ask(2, 0)", KIND).stays("item(0, 0)", KIND)
                .stays("item(1, 0)", KIND).stays("item(2, 0)", KIND).stays("rest(0, 1)", KIND).stays("rest(1, 1)", KIND)
                .stays("mark(1, 0, NONE)", KIND).stays("copy(0, 0, 1, 0, 1)", KIND);
    }

    private static void images(Document doc) {
        doc.says(40, "AN IMAGE keeps all but SHEETS, SLOTS, numbers that wait, THE TAPE;").calls("drummer(3, 4)")
                .calls("set(0, 3, 3)", "set(0, 2, 7)", "miss(1)", "beats(3)", "seed(8)").law("fine 5").calls("keep()")
                .calls("turns(0, 0)", "set(0, 1, 9)", "set(0, 3, 1)", "miss(0)", "beats(9)", "drummer(0, 1)")
                .calls("set(0, 2, 8)", "beats(1)").each(5, 2)
                .law("fine 6").law("hear 1").calls("back()").due("count(0)", 1).due("count(1)", 3).due("count(2)", 1)
                .due("count(6)", 1).due("count(9)", 8).due("fine()", 5).due("why(0)", NONE).each(0, 3).each(1, 4)
                .each(2, 0).each(3, 9).each(4, 8).each(5, 1).each(6, 2).each(7, 3);
        doc.also(40).calls("keep()", "tell(5)").row(1, 0, "6").calls("lay(1, 3, 7)").tape("fine 8").calls("back()")
                .due("count(7)", 1).due("pour(1)", 0).due("rest(1, 10)", 7).due("text()", 0).due("fine()", 8);
        Run again = line(doc.says(41, "all can become as it is (again and again)."), 7).calls("order(0)", "keep()");
        for (int k = 1; k < 9; k++) {
            again.calls("beats(" + k + ")").each(5, k < 2 ? 0 : 1).due("back()", 1).each(2, 7).each(5, 0).each(6, NONE)
                    .due("count(1)", 0).due("count(9)", 1);
        }
        counts(line(doc.says(39, "THE BEATS TOLD: of n BEATS, one behind the other, by THE IMAGE: how many strike;"
                + " COUNTS of all, together, behind each."), 6, 6), 7, 8).calls("keep()", "hush()", "beats(5)")
                .calls("tell(1)", "tell(17)", "tell(1)", "tell(9)", "tell(0)", "tell(6)").due("check(3)", 0);
    }
}
