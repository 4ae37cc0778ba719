/** The document's promises 1 to 42, sentence by sentence. */
final class DocumentPromises {
    private static final int BAD = OneStroke.BAD, NO = OneStroke.NO, FULL = OneStroke.FULL, NONE = OneStroke.NONE,
            NOTHING = OneStroke.NOTHING, KIND = OneStroke.KIND, INDEX = OneStroke.INDEX, SIZE = OneStroke.SIZE;

    private DocumentPromises() {
    }

    static void read(Document doc) {
        aNewObject(doc);
        drummer(doc);
        told(doc);
        asAndTurns(doc);
        setAndMiss(doc);
        dealAndSeed(doc);
        orderAndHush(doc);
        beatsAndBehind(doc);
        soonAndAll(doc);
        spreadAndToWhom(doc);
        mend(doc);
        farReachEdge(doc);
        miscountedAndFine(doc);
        feedAndTrim(doc);
        textAndTextTold(doc);
        why(doc);
        sheet(doc);
        mark(doc);
        pourAndReads(doc);
        copy(doc);
        lay(doc);
        ask(doc);
        item(doc);
        rest(doc);
        tellAndCheck(doc);
        keepAndBack(doc);
        count(doc);
    }

    private static Run line(Run run, int... starts) {
        return DocumentTest.line(run, starts);
    }

    /** A SLOT each of nothing, a DRUMMER (LATE, START 4), a SHEET of floats (6, NO NUMBER), and the number 17. */
    private static Run slots(Run run) {
        return run.calls("drummer(3, 4)").row(0, 1, "6", "NONE").calls("lay(1, 1, 0)", "lay(2, 2, 0)", "lay(3, 3, 17)");
    }

    // ---- the line

    private static void aNewObject(Document doc) {
        Run none = doc.says(1, "As told; no DRUMMERS.");
        for (int what = 0; what < 10; what++) {
            none.due("count(" + what + ")", what == 9 ? 1 : 0);
        }
        none.due("told(0, 0)", BAD).due("back()", NO).due("why(0)", NONE).due("why(1)", NONE).due("why(2)", NONE)
                .due("fine()", 0).due("drummer(0, 1)", 0);
    }

    private static void drummer(Document doc) {
        doc.says(2, "One more DRUMMER, at the end of the line: its number.").due("drummer(4, 7)", 0)
                .due("drummer(5, 2)", 1).due("count(0)", 2).each(0, 4, 5).each(1, 7, 2).due("far(0, 1)", 1);
        doc.also(2).calls("keep()", "drummer(5, 5)", "set(0, 2, 8)", "set(0, 3, 2)", "beats(1)", "back()")
                .due("drummer(1, 6)", 0).each(0, 1).each(1, 6).each(2, 0).each(3, 0).each(4, 0).each(5, 0)
                .each(6, NONE).each(7, 1);
        Run run = doc.says(2, "BAD; FULL.").stays("drummer(6, 1)", BAD).stays("drummer(-1, 1)", BAD)
                .stays("drummer(0, 0)", BAD).stays("drummer(0, 10)", BAD).times(10, "drummer(0, 1)");
        run.stays("drummer(0, 10)", BAD).stays("drummer(0, 1)", FULL);
    }

    /** 0 struck in BEAT 1, and its sound comes to 1 three BEATS behind its COUNT. */
    private static void told(Document doc) {
        Run run = doc.says(3, "Of a DRUMMER: what 0 KIND, 1 START, 2 COUNT, 3 what it was a BEAT ago, 4 two ago, 5"
                + " STROKES, 6 FIRST (NONE), 7 APART, 8 whether it HEARS now (1, 0), 9 what it would WAKE to, 10 STEP"
                + " from its COUNT as it is (0: 0), 11 WORTH.")
                .calls("drummer(2, 4)", "drummer(0, 1)", "set(0, 3, 3)", "set(0, 2, 8)");
        run.calls("beats(2)");
        int[] first = {2, 4, 0, 9, 8, 1, 1, 3, 0, 5, 0, 16};
        int[] second = {0, 1, 0, 0, 0, 0, NONE, 1, 1, 1, 0, 1};
        for (int what = 0; what < 12; what++) {
            run.each(what, first[what], second[what]);
        }
        run.calls("order(0)").each(2, 5, 0).each(10, 6, 0);
        doc.says(3, "BAD.").stays("told(0, 0)", BAD).calls("drummer(0, 1)").stays("told(1, 0)", BAD)
                .stays("told(-1, 0)", BAD).stays("told(0, -1)", BAD).stays("told(0, 12)", BAD);
    }

    private static void asAndTurns(Document doc) {
        doc.says(4, "A DRUMMER as one of a KIND: START.").calls("drummer(3, 8)").due("as(0, 3)", 8).due("as(0, 1)", 8)
                .due("as(0, 0)", 8).calls("set(0, 1, 2)").due("as(0, 1)", 2).stays("as(0, 3)", 2);
        doc.says(4, "BAD: drummer, kind;").stays("as(0, 0)", BAD).calls("drummer(3, 8)").stays("as(1, 3)", BAD)
                .stays("as(-1, 3)", BAD).stays("as(0, 6)", BAD).stays("as(0, -1)", BAD);
        doc.says(4, "KIND: it is not of that KIND, nor of one under it.").calls("drummer(3, 8)", "drummer(1, 7)")
                .stays("as(0, 2)", KIND).stays("as(0, 4)", KIND).stays("as(0, 5)", KIND).stays("as(1, 3)", KIND)
                .calls("turns(1, 3)").stays("as(1, 3)", 7);
        doc.says(5, "A DRUMMER is of another KIND from now on: what it was.").calls("drummer(0, 4)", "drummer(0, 4)")
                .due("turns(0, 2)", 0).each(0, 2, 0).each(9, 5, 4).each(11, 16, 4).due("turns(0, 3)", 2).each(9, 3, 4)
                .each(11, 16, 4).due("turns(0, 5)", 3).each(11, 6, 4).each(1, 4, 4);
        doc.says(5, "BAD.").stays("turns(0, 1)", BAD).calls("drummer(0, 4)").stays("turns(1, 1)", BAD)
                .stays("turns(-1, 1)", BAD).stays("turns(0, 6)", BAD).stays("turns(0, -1)", BAD);
    }

    private static void setAndMiss(Document doc) {
        line(doc.says(6, "START (what 1), COUNT (2), APART (3) of a DRUMMER becomes v: what it was."), 4, 5)
                .due("set(1, 1, 6)", 5).due("set(1, 1, 7)", 6).due("set(1, 2, 8)", 0).due("set(1, 2, 0)", 8)
                .due("set(1, 3, 3)", 1).due("set(1, 3, 2)", 3).each(1, 4, 7).each(2, 0, 0).each(3, 0, 0).each(5, 0, 0)
                .each(7, 1, 2);
        line(doc.says(6, "BAD."), 4).stays("set(1, 1, 1)", BAD).stays("set(-1, 1, 1)", BAD).stays("set(0, 0, 1)", BAD)
                .stays("set(0, 4, 1)", BAD).stays("set(0, 1, 0)", BAD).stays("set(0, 1, 10)", BAD)
                .stays("set(0, 2, -1)", BAD).stays("set(0, 2, 10)", BAD).stays("set(0, 3, 0)", BAD)
                .stays("set(0, 3, 4)", BAD);
        doc.says(7, "MISS becomes v: what it was.").due("miss(60)", 0).due("miss(7)", 60).due("count(2)", 7);
        line(doc.also(7), 1).calls("order(0)").due("miss(100)", 0).calls("beats(50)").each(2, 1).due("miss(0)", 100)
                .calls("beats(1)").each(2, 2);
        doc.says(7, "BAD.").calls("miss(5)").stays("miss(-1)", BAD).stays("miss(101)", BAD).due("count(2)", 5);
    }

    private static void dealAndSeed(Document doc) {
        doc.says(8, "DRUMMERS are drawn, n (1 .. 10) of them, as many as there is room for (no draws for others): how"
                + " many came.").calls("drummer(0, 1)", "seed(3)").due("deal(4)", 4)
                .due("count(9)", DocumentTest.drawn(3, 8))
                .due("count(0)", 5).due("deal(10)", 5).due("count(9)", DocumentTest.drawn(3, 18)).due("deal(1)", 0)
                .due("count(9)", DocumentTest.drawn(3, 18)).each(0, 0).each(1, 1);
        doc.also(8).due("deal(10)", 10).due("count(9)", DocumentTest.drawn(1, 20));
        doc.says(8, "BAD.").stays("deal(0)", BAD).stays("deal(11)", BAD).stays("deal(-1)", BAD);
        doc.says(9, "z becomes v: what it was.").due("seed(44)", 1).due("seed(MIN)", 44)
                .due("seed(0)", Integer.MIN_VALUE)
                .due("count(9)", 0).calls("deal(1)").due("count(9)", DocumentTest.drawn(0, 2));
    }

    // ---- beats

    private static void orderAndHush(Document doc) {
        doc.says(10, "AN ORDER: COUNT then.").calls("drummer(0, 4)", "drummer(2, 4)", "drummer(3, 4)")
                .due("order(1)", 5)
                .due("order(2)", 3).due("order(0)", 4).each(2, 4, 5, 3).law("start 9").calls("set(0, 2, 0)")
                .due("order(0)", 9).each(5, 0);
        line(doc.says(10, "BAD;"), 4).stays("order(1)", BAD).stays("order(-1)", BAD);
        line(doc.says(10, "NO: its COUNT is above 0."), 4, 1).calls("order(0)", "order(1)").stays("order(0)", NO)
                .stays("order(1)", NO)
                .calls("set(0, 2, 9)").stays("order(0)", NO).calls("beats(1)").due("order(0)", 4);
        line(doc.says(11, "All are still (COUNT 0, also 1 and 2 BEATS ago): how many had a COUNT above 0."), 4, 8, 9)
                .calls("set(0, 3, 3)", "set(1, 3, 2)", "set(0, 2, 8)", "set(1, 2, 8)", "beats(2)").due("count(4)", 1)
                .due("hush()", 1).each(2, 0, 0, 0).each(3, 0, 0, 0).each(4, 0, 0, 0).each(5, 1, 1, 1).each(8, 0, 0, 0)
                .due("beats(9)", 0).due("hush()", 0);
        line(doc.also(11), 1, 1, 1, 1, 1, 1, 1, 1, 1, 1).calls("order(0)", "order(9)").due("hush()", 2)
                .due("count(5)", 0);
    }

    private static void beatsAndBehind(Document doc) {
        line(doc.says(12, "n (1 .. 100) BEATS (no more than up to 9999): how many STROKES there were in them."), 9)
                .law("hear 1").due("beats(1)", 1).due("beats(1)", 0).due("beats(3)", 2).due("beats(100)", 50)
                .due("count(1)", 105).toBeat(9996).due("beats(100)", 2).due("count(1)", 9999).due("beats(1)", 0);
        doc.says(12, "BAD.").stays("beats(0)", BAD).stays("beats(101)", BAD).stays("beats(-1)", BAD);
        line(doc.says(13, "BEHIND n (0 .. 100) BEATS of one: what 0 COUNT, 1 its STROKES in them, 2 how many strike"
                + " in the last one."), 9, 9).law("hear 1").due("behind(1, 0, 0)", 0).due("behind(1, 1, 0)", 9)
                .due("behind(1, 100, 0)", 0).due("behind(1, 100, 1)", 50).due("behind(1, 99, 2)", 2)
                .due("behind(0, 100, 2)", 0).due("behind(0, 0, 1)", 0);
        line(doc.says(13, "BAD."), 9).stays("behind(1, 1, 0)", BAD).stays("behind(-1, 1, 0)", BAD)
                .stays("behind(0, -1, 0)", BAD).stays("behind(0, 101, 0)", BAD).stays("behind(0, 1, -1)", BAD)
                .stays("behind(0, 1, 3)", BAD);
    }

    private static void soonAndAll(Document doc) {
        line(doc.says(14, "SOON."), 7, 9).calls("order(0)").due("soon()", 1).law("hear 0").due("soon()", 2)
                .calls("beats(1)").due("soon()", 1);
        // A TRAITOR that wakes to 8 does not strike: this one wakes to 9 in the BEAT behind b alone.
        doc.also(14).calls("drummer(4, 1)", "set(0, 2, 8)").law("hear 1").law("start 7+(b=99)").due("soon()", 100)
                .law("start 7+(b=101)").due("soon()", NONE);
        line(doc.says(14, "NONE: not by then."), 7).due("soon()", NONE).calls("order(0)", "miss(100)")
                .due("soon()", NONE);
        line(doc.says(15, "ALL."), 7, 8).calls("order(0)").due("all()", 2).calls("set(1, 1, 9)").due("all()", NONE);
        doc.says(15, "NONE: not by then, or there are no DRUMMERS.").due("all()", NONE).calls("drummer(0, 8)")
                .due("all()", NONE).calls("order(0)").due("all()", 1).calls("miss(100)").due("all()", NONE);
    }

    private static void spreadAndToWhom(Document doc) {
        line(doc.says(16, "SPREAD in n (1 .. 100)."), 7, 5, 9).calls("order(0)").due("spread(5)", 3)
                .due("spread(1)", NONE).due("spread(100)", 3);
        line(doc.says(16, "BAD;"), 7).stays("spread(0)", BAD).stays("spread(101)", BAD);
        doc.says(16, "NONE: also without DRUMMERS.").due("spread(9)", NONE).calls("drummer(0, 8)")
                .due("spread(9)", NONE).calls("order(0)").due("spread(1)", 0);
        line(doc.says(17, "TO WHOM in n (1 .. 60)."), 8, 7, 9).due("toWhom(60)", 1).due("toWhom(2)", 1)
                .due("toWhom(1)", NONE);
        doc.says(17, "BAD;").stays("toWhom(0)", BAD).stays("toWhom(61)", BAD);
        line(doc.says(17, "NONE: there is none."), 8).calls("order(0)").due("toWhom(60)", NONE).calls("set(0, 2, 0)")
                .due("toWhom(60)", 0).calls("set(0, 1, 9)").due("toWhom(60)", NONE);
    }

    private static void mend(Document doc) {
        line(doc.says(18, "MEND in n (1 .. 40): what 0 the DRUMMER, 1 the START, 2 how many strike then."), 8, 3, 8)
                .law("hear n>0").law("start s-n+1").due("mend(2, 0)", 1).due("mend(2, 1)", 8).due("mend(2, 2)", 1)
                .due("mend(6, 0)", 1).due("mend(6, 1)", 7).due("mend(6, 2)", 2).due("mend(40, 2)", NONE);
        doc.says(18, "BAD;").stays("mend(0, 0)", BAD).stays("mend(41, 0)", BAD).stays("mend(1, -1)", BAD)
                .stays("mend(1, 3)", BAD);
        line(doc.says(18, "NONE: there is none."), 4, 4).due("mend(40, 0)", NONE).due("mend(40, 1)", NONE)
                .due("mend(40, 2)", NONE).law("hear 1").due("mend(9, 0)", NONE).due("mend(5, 0)", 0);
    }

    // ---- sounds

    private static void farReachEdge(Document doc) {
        line(doc.says(19, "FAR."), 1, 1, 1).calls("set(0, 3, 2)", "set(1, 3, 3)", "set(2, 3, 3)").due("far(0, 2)", 5)
                .due("far(2, 1)", 3).due("far(1, 1)", 0);
        line(doc.says(19, "BAD."), 1).stays("far(0, 1)", BAD).stays("far(1, 0)", BAD).stays("far(-1, 0)", BAD)
                .stays("far(0, -1)", BAD);
        line(doc.says(20, "WITHIN n (0 .. 30), as a set (with itself)."), 1, 1, 1).calls("set(0, 3, 2)", "set(1, 3, 3)")
                .due("reach(1, 0)", 2).due("reach(1, 2)", 3).due("reach(1, 30)", 7).due("reach(2, 4)", 6);
        line(doc.says(20, "BAD."), 1).stays("reach(1, 0)", BAD).stays("reach(-1, 0)", BAD).stays("reach(0, -1)", BAD)
                .stays("reach(0, 31)", BAD);
        line(doc.says(21, "EDGE."), 1, 1, 1).calls("set(0, 3, 2)", "set(1, 3, 3)", "set(2, 3, 3)").due("edge(0)", 5)
                .due("edge(1)", 3).due("edge(2)", 5);
        line(doc.says(21, "BAD."), 1).stays("edge(1)", BAD).stays("edge(-1)", BAD);
    }

    private static void miscountedAndFine(Document doc) {
        line(doc.says(22, "MISCOUNTED by a SHEET in n (1 .. 60): what 0 the DRUMMER, 1 the differences,"
                + " together."), 4, 4, 4)
                .law("hear 1").row(3, 0, "6", "6", "2").due("miscounted(3, 60, 0)", 2).due("miscounted(3, 60, 1)", 3)
                .due("miscounted(3, 5, 0)", 0).due("miscounted(3, 5, 1)", 9).due("miscounted(3, 1, 0)", 0)
                .due("miscounted(3, 1, 1)", 14);
        line(doc.says(22, "BAD;"), 4).stays("miscounted(-1, 1, 0)", BAD).stays("miscounted(4, 1, 0)", BAD)
                .stays("miscounted(0, 0, 0)", BAD).stays("miscounted(0, 61, 0)", BAD).stays("miscounted(0, 1, -1)", BAD)
                .stays("miscounted(0, 1, 2)", BAD);
        doc.says(22, "NOTHING;").stays("miscounted(2, 1, 0)", NOTHING).calls("drummer(0, 1)", "sheet(1, 0, 1)")
                .stays("miscounted(2, 1, 0)", NOTHING);
        doc.says(22, "NONE: there are no DRUMMERS.").row(2, 0, "5").stays("miscounted(2, 1, 0)", NONE)
                .stays("miscounted(2, 1, 1)", NONE).calls("drummer(0, 1)").stays("miscounted(2, 1, 0)", 0)
                .stays("miscounted(2, 1, 1)", 5);
        line(doc.says(23, "What fine gives."), 8).calls("order(0)", "beats(3)").due("fine()", 1).law("fine b-m*2")
                .due("fine()", 1).law("fine 0-b").stays("fine()", -3);
    }

    // ---- texts

    private static void feedAndTrim(Document doc) {
        doc.says(24, "Twelve bytes come to THE TAPE, the highest of each number first: how many it has.")
                .due("feed(1718185573, 540619058, 858469408)", 12).due("text()", 0).due("fine()", 9123 + 4)
                .due("feed(0, 0, 0)", 12).due("feed(0, 0, 0)", 24).due("text()", -100);
        doc.says(24, "FULL: it would have more than 96.").times(8, "feed(0, 0, 0)").stays("feed(0, 0, 0)", FULL)
                .due("count(8)", 96).calls("trim(85)").stays("feed(0, 0, 0)", FULL).calls("trim(84)")
                .due("feed(0, 0, 0)", 96);
        doc.says(25, "THE TAPE keeps its first n bytes: n.").tape("fine 12+34").due("trim(9)", 9).due("count(8)", 9)
                .due("text()", 0).due("fine()", 15).due("trim(0)", 0);
        doc.says(25, "BAD.").stays("trim(1)", BAD).calls("feed(0, 0, 0)").stays("trim(13)", BAD).stays("trim(-1)", BAD)
                .due("trim(12)", 12);
    }

    private static void textAndTextTold(Document doc) {
        doc.says(26, "THE TAPE is a TEXT: its number.").tape("hear r|l").due("text()", 0).tape("fine b")
                .due("text()", 1).tape("hear 0").due("text()", 2).due("count(6)", 3);
        doc.says(26, "-100 less the place of its FAULT;").tape("hear r|m").due("text()", -107).tape("#")
                .due("text()", -100)
                .tape("fine 1" + " ".repeat(89) + "1").due("text()", -195).tape("fine (1" + " ".repeat(89))
                .due("text()", -196).due("count(6)", 0);
        Run full = doc.says(26, "FULL.");
        for (int k = 0; k < 14; k++) {
            full.law("start " + k);
        }
        full.tape("start 1").usesTape("text()", FULL).tape("start").usesTape("text()", -105).due("why(1)", 13);
        doc.says(27, "Of a TEXT: what 0 KEY (0 hear, 1 start, 2 fine), 1 how many NUMBERS and NAMES it has.")
                .law("fine m+m*12-!(b|0)").law("hear l").law("start 1+(s=3&n=4)").due("textTold(0, 0)", 2)
                .due("textTold(1, 0)", 0).due("textTold(2, 0)", 1).due("textTold(0, 1)", 5).due("textTold(1, 1)", 1)
                .stays("textTold(2, 1)", 5);
        doc.says(27, "BAD.").stays("textTold(0, 0)", BAD).law("hear 1").stays("textTold(1, 0)", BAD)
                .stays("textTold(-1, 0)", BAD).stays("textTold(0, -1)", BAD).stays("textTold(0, 2)", BAD);
    }

    private static void why(Document doc) {
        doc.says(28, "The TEXT that counts for a KEY.").law("start 1").law("hear 1").law("start 2").stays("why(1)", 2)
                .stays("why(0)", 1);
        doc.says(28, "BAD;").stays("why(-1)", BAD).stays("why(3)", BAD);
        doc.says(28, "NONE.").stays("why(0)", NONE).law("start 1").stays("why(0)", NONE).stays("why(2)", NONE)
                .stays("why(1)", 0);
    }

    // ---- sheets, slots

    private static void sheet(Document doc) {
        doc.says(29, "A SHEET becomes a row of n places of a sort, all 0 (sort -1: MISSING, n any): n (0).")
                .due("sheet(2, 1, 3)", 3).places(2, 0, 0, 0).calls("mark(2, 1, NONE)", "mark(2, 2, 40000)")
                .due("sheet(2, 0, 2)", 2).places(2, 0, 0).due("mark(2, 1, 65537)", 1).places(2, 0, 1)
                .due("sheet(2, 0, 0)", 0).places(2).due("sheet(2, -1, MIN)", 0).due("pour(2)", NOTHING)
                .due("sheet(2, 1, 24)", 24).due("sheet(2, -1, 25)", 0).due("pour(2)", NOTHING);
        doc.says(29, "BAD: sheet, sort, n above 24;").stays("sheet(4, 0, 1)", BAD).stays("sheet(-1, 0, 1)", BAD)
                .stays("sheet(0, 2, 1)", BAD).stays("sheet(0, -2, 1)", BAD).stays("sheet(0, 0, 25)", BAD)
                .stays("sheet(0, 2, -1)", BAD).stays("sheet(4, -1, 0)", BAD);
        doc.says(29, "SIZE.").row(0, 0, "5").stays("sheet(0, 0, -1)", SIZE).stays("sheet(0, 1, -25)", SIZE)
                .places(0, 5);
    }

    private static void mark(Document doc) {
        doc.says(30, "A place of a SHEET becomes v (of shorts its lowest 16 bits; of floats v, -99999 .. 99999; NONE:"
                + " NO NUMBER): 1.").calls("sheet(0, 0, 4)").due("mark(0, 0, 32767)", 1).due("mark(0, 1, 32768)", 1)
                .due("mark(0, 2, -32769)", 1).due("mark(0, 3, MAX)", 1).places(0, 32767, -32768, 32767, -1)
                .calls("sheet(0, 1, 4)").due("mark(0, 0, 99999)", 1).due("mark(0, 1, -99999)", 1)
                .due("mark(0, 2, NONE)", 1).due("mark(0, 3, 70000)", 1).places(0, 99999, -99999, KIND, 70000);
        doc.says(30, "BAD: sheet;").stays("mark(4, 0, 0)", BAD).stays("mark(-1, 0, 0)", BAD);
        doc.says(30, "NOTHING;").stays("mark(0, 0, 0)", NOTHING).stays("mark(3, 0, 0)", NOTHING);
        doc.says(30, "INDEX;").calls("sheet(0, 0, 2)", "sheet(1, 1, 0)").stays("mark(0, 2, 0)", INDEX)
                .stays("mark(0, -1, 0)", INDEX).stays("mark(1, 0, 0)", INDEX);
        doc.says(30, "KIND: NONE in a row of shorts;").row(0, 0, "5").stays("mark(0, 0, NONE)", KIND).places(0, 5);
        doc.says(30, "BAD: v of floats.").row(0, 1, "5").stays("mark(0, 0, 100000)", BAD)
                .stays("mark(0, 0, -100000)", BAD).stays("mark(0, 0, MIN)", BAD).places(0, 5);
    }

    private static void pourAndReads(Document doc) {
        line(doc.says(31, "STARTS of DRUMMERS, by numbers, become the places of a SHEET from 0 on (each held within 1"
                + " .. 9; NO NUMBER, and beyond the SHEET: they stay): how many are otherwise then."), 5, 5, 5, 5, 5, 5)
                .row(0, 1, "4", "0", "99", "NONE", "6", "5").due("pour(0)", 4).each(1, 4, 1, 9, 5, 6, 5)
                .due("pour(0)", 0);
        line(doc.also(31), 1, 1, 1).row(1, 0, "7", "7").due("pour(1)", 2).each(1, 7, 7, 1);
        doc.says(31, "BAD;").stays("pour(4)", BAD).stays("pour(-1)", BAD);
        doc.says(31, "NOTHING.").stays("pour(0)", NOTHING).calls("drummer(0, 5)").stays("pour(3)", NOTHING);
        line(doc.says(32, "The first place k (of numbers alone) at which a SHEET is not COUNT of a DRUMMER behind k"
                + " BEATS."),
                7, 3).calls("order(0)").row(0, 1, "0", "3", "NONE", "5", "7").stays("reads(0, 1)", 4)
                .stays("reads(0, 0)", 0).calls("mark(0, 0, 7)").stays("reads(0, 0)", 1).stays("reads(0, 1)", 0);
        line(doc.says(32, "BAD;"), 7).row(0, 0, "0").stays("reads(4, 0)", BAD).stays("reads(-1, 0)", BAD)
                .stays("reads(0, 1)", BAD).stays("reads(0, -1)", BAD).stays("reads(1, 1)", BAD);
        line(doc.says(32, "NOTHING;"), 7).row(0, 0, "0").stays("reads(1, 0)", NOTHING);
        line(doc.says(32, "NONE: there is none."), 7).calls("order(0)").row(0, 0, "7", "8", "9", "0", "0")
                .stays("reads(0, 0)", NONE).row(1, 1, "NONE", "8", "NONE").stays("reads(1, 0)", NONE).row(2, 0)
                .stays("reads(2, 0)", NONE);
    }

    private static void copy(Document doc) {
        doc.says(33, "So many places of a SHEET come to another one (or the same), as they were: many.")
                .row(0, 1, "1", "2", "NONE", "4", "5").row(1, 1, "6", "7", "8").due("copy(0, 1, 1, 0, 3)", 3)
                .places(1, 2, KIND, 4).due("copy(0, 0, 0, 1, 4)", 4).places(0, 1, 1, 2, KIND, 4)
                .due("copy(0, 1, 0, 0, 4)", 4).places(0, 1, 2, KIND, 4, 4).due("copy(0, 0, 1, 0, 0)", 0)
                .places(1, 2, KIND, 4);
        doc.says(33, "BAD;").row(0, 0, "1").stays("copy(4, 0, 0, 0, 1)", BAD).stays("copy(0, 0, 4, 0, 1)", BAD)
                .stays("copy(-1, 0, 0, 0, 1)", BAD).stays("copy(0, 0, -1, 0, 1)", BAD)
                .stays("copy(1, 0, 4, 0, 1)", BAD);
        doc.says(33, "NOTHING;").row(0, 0, "1").stays("copy(0, 0, 1, 0, 1)", NOTHING)
                .stays("copy(1, 0, 0, 0, 1)", NOTHING).stays("copy(1, 9, 0, 9, 9)", NOTHING);
        doc.says(33, "KIND: they are not of one sort;").row(0, 0, "1").row(1, 1, "2").stays("copy(0, 0, 1, 0, 1)", KIND)
                .stays("copy(1, 0, 0, 0, 0)", KIND).stays("copy(1, 9, 0, 9, 9)", KIND).places(0, 1).places(1, 2);
        doc.says(33, "INDEX.").row(0, 0, "1", "2").row(1, 0, "3", "4", "5").stays("copy(0, 0, 1, 0, 3)", INDEX)
                .stays("copy(1, 0, 0, 0, 3)", INDEX).stays("copy(0, -1, 1, 0, 1)", INDEX)
                .stays("copy(0, 0, 1, -1, 1)", INDEX).stays("copy(0, 0, 1, 2, 2)", INDEX)
                .stays("copy(0, 0, 1, 0, -1)", INDEX).places(1, 3, 4, 5);
        doc.says(33, "(From a SHEET, its place, to a SHEET, its place.)").row(0, 0, "1", "2", "3")
                .row(1, 0, "4", "5", "6", "7").due("copy(0, 2, 1, 3, 1)", 1).places(0, 1, 2, 3).places(1, 4, 5, 6, 3)
                .stays("copy(0, 3, 1, 2, 1)", INDEX).due("copy(1, 3, 0, 2, 1)", 1);
    }

    private static void lay(Document doc) {
        line(doc.says(34, "A SLOT holds: thing 0 nothing, 1 DRUMMER k, 2 SHEET k, 3 the number k: what it held (0 .."
                + " 3)."), 4,
                6).row(1, 0, "8").due("lay(4, 1, 1)", 0).due("ask(4, 0)", 6).due("lay(4, 2, 1)", 1).due("item(4, 0)", 8)
                .due("lay(4, 3, -7)", 2).due("rest(4, 10)", -7).due("lay(4, 0, 0)", 3).due("rest(4, 10)", NOTHING)
                .due("lay(4, 0, 0)", 0);
        line(doc.says(34, "BAD: slot, thing, k;"), 4).calls("lay(0, 3, 5)").stays("lay(5, 3, 5)", BAD)
                .stays("lay(-1, 3, 5)", BAD).stays("lay(0, 4, 0)", BAD).stays("lay(0, -1, 0)", BAD)
                .stays("lay(0, 1, 1)", BAD).stays("lay(0, 1, -1)", BAD).stays("lay(0, 2, 4)", BAD)
                .stays("lay(0, 2, -1)", BAD).due("rest(0, 10)", 5);
        doc.says(34, "NOTHING: that SHEET is MISSING.").calls("lay(0, 3, 5)").stays("lay(0, 2, 3)", NOTHING)
                .due("rest(0, 10)", 5);
    }

    private static void ask(Document doc) {
        slots(doc.says(35, "WORTH of the DRUMMER in a SLOT, taken for one of a KIND (0 .. 5).")).stays("ask(1, 0)", 16)
                .stays("ask(1, 1)", 16).stays("ask(1, 3)", 16).calls("turns(0, 5)").stays("ask(1, 3)", 16)
                .calls("lay(0, 1, 0)").stays("ask(0, 5)", 6).stays("ask(0, 0)", 6);
        slots(doc.says(35, "BAD;")).stays("ask(-1, 0)", BAD).stays("ask(5, 0)", BAD).stays("ask(1, -1)", BAD)
                .stays("ask(1, 6)", BAD).stays("ask(0, 6)", BAD);
        slots(doc.says(35, "NOTHING;")).stays("ask(0, 0)", NOTHING).stays("ask(4, 5)", NOTHING);
        slots(doc.says(35, "KIND: it is no DRUMMER, or not of that KIND, nor of one under it."))
                .stays("ask(2, 0)", KIND)
                .stays("ask(3, 0)", KIND).stays("ask(1, 2)", KIND).stays("ask(1, 4)", KIND).stays("ask(1, 5)", KIND)
                .calls("drummer(1, 4)", "lay(0, 1, 1)").stays("ask(0, 3)", KIND);
    }

    private static void item(Document doc) {
        slots(doc.says(36, "A place of the SHEET in a SLOT.")).stays("item(2, 0)", 6).calls("mark(0, 0, 9)")
                .stays("item(2, 0)", 6).calls("lay(2, 2, 0)").stays("item(2, 0)", 9);
        slots(doc.says(36, "BAD: slot;")).stays("item(-1, 0)", BAD).stays("item(5, 0)", BAD);
        slots(doc.says(36, "NOTHING;")).stays("item(0, 0)", NOTHING).stays("item(4, -1)", NOTHING);
        slots(doc.says(36, "KIND: it is no SHEET;")).stays("item(1, 0)", KIND).stays("item(3, 0)", KIND)
                .stays("item(1, -1)", KIND).stays("item(3, 24)", KIND);
        slots(doc.says(36, "INDEX;")).stays("item(2, 2)", INDEX).stays("item(2, -1)", INDEX);
        slots(doc.says(36, "KIND: NO NUMBER.")).stays("item(2, 1)", KIND);
    }

    private static void rest(Document doc) {
        slots(doc.says(37, "The rest of the number in a SLOT by n.")).stays("rest(3, 5)", 2).stays("rest(3, -5)", 2)
                .stays("rest(3, 17)", 0).calls("lay(3, 3, -17)").stays("rest(3, 5)", -2).stays("rest(3, -5)", -2);
        slots(doc.says(37, "BAD: slot;")).stays("rest(-1, 5)", BAD).stays("rest(5, 0)", BAD);
        slots(doc.says(37, "NOTHING;")).stays("rest(0, 5)", NOTHING).stays("rest(4, 0)", NOTHING);
        slots(doc.says(37, "KIND: it is no number;")).stays("rest(1, 5)", KIND).stays("rest(2, 5)", KIND)
                .stays("rest(1, 0)", KIND);
        slots(doc.says(37, "NO: n is 0.")).stays("rest(3, 0)", NO);
    }

    // ---- rows, images

    private static void tellAndCheck(Document doc) {
        doc.says(38, "One more number waits: how many.").due("tell(7)", 1).due("tell(NONE)", 2).due("count(7)", 2);
        Run sixty = doc.says(38, "FULL: 60 wait.").times(60, "tell(1)");
        sixty.stays("tell(1)", FULL).due("count(7)", 60);
        line(doc.says(39, "The numbers that wait (none do then, whatever is answered) are THE BEATS TOLD of n (1 .."
                + " 30; fewer, if THE BEAT would be above 9999), two by two: 0;"), 7).toBeat(9997)
                .calls("order(0)", "keep()")
                .calls("tell(0)", "tell(8)", "tell(1)", "tell(9)").usesNumbers("check(2)", 0)
                .calls("tell(0)", "tell(8)", "tell(1)", "tell(9)").usesNumbers("check(30)", 0);
        Run first = line(doc.says(39, "else 1 and how many stand right ahead of the first that is not (or is missing,"
                + " or one too many)."), 7).calls("order(0)", "keep()");
        first.calls("tell(0)", "tell(8)", "tell(1)", "tell(8)").usesNumbers("check(2)", 4)
                .calls("tell(0)", "tell(8)", "tell(1)").usesNumbers("check(2)", 4).usesNumbers("check(2)", 1)
                .calls("tell(0)", "tell(8)", "tell(1)", "tell(9)", "tell(0)").usesNumbers("check(2)", 5)
                .calls("tell(9)", "tell(8)").usesNumbers("check(1)", 1);
        doc.says(39, "BAD;").calls("keep()", "tell(0)").usesNumbers("check(0)", BAD).calls("tell(0)")
                .usesNumbers("check(31)", BAD).calls("tell(0)").usesNumbers("check(-1)", BAD);
        doc.says(39, "NO: there is no IMAGE.").calls("tell(0)", "tell(0)").usesNumbers("check(1)", NO)
                .usesNumbers("check(31)", BAD);
    }

    private static void keepAndBack(Document doc) {
        doc.says(40, "AN IMAGE is kept: how many DRUMMERS.").due("keep()", 0).calls("deal(3)").due("keep()", 3)
                .calls("deal(3)").due("count(0)", 6).due("back()", 3);
        line(doc.says(41, "All is as THE IMAGE: how many DRUMMERS."), 7, 8).calls("order(0)", "keep()", "beats(9)")
                .calls("deal(8)").due("back()", 2).due("count(0)", 2).due("count(1)", 0).due("count(9)", 1)
                .each(2, 7, 0).due("all()", 2);
        line(doc.says(41, "NO: there is none."), 7).stays("back()", NO).calls("keep()").due("back()", 1);
    }

    private static void count(Document doc) {
        Run run = doc.says(42, "0 how many DRUMMERS, 1 THE BEAT, 2 MISS, 3 STROKES of all, together, 4 how many have"
                + " a COUNT above 0, 5 COUNTS of all, together, 6 TEXTS, 7 numbers that wait, 8 bytes of THE TAPE, 9"
                + " z.")
                .times(9, "drummer(0, 9)").calls("set(0, 2, 8)", "set(4, 2, 8)", "beats(1)", "set(7, 2, 1)")
                .calls("miss(22)", "seed(-33)");
        run.law("fine 1").law("fine 2").law("fine 3").tape("hear 1234")
                .calls("tell(4)", "tell(4)", "tell(4)", "tell(4)");
        int[] due = {9, 1, 22, 5, 6, 46, 3, 4, 9, -33};
        for (int what = 0; what < due.length; what++) {
            run.stays("count(" + what + ")", due[what]);
        }
        doc.says(42, "BAD.").stays("count(-1)", BAD).stays("count(10)", BAD);
    }
}
