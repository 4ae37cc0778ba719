/** The edges of promises 29 to 37, words by words: sheet, mark, pour, reads, copy, lay, ask, item, rest. */
public final class SheetsEdgesTest {
    private static final int BAD = OneStroke.BAD, NO = OneStroke.NO, NONE = OneStroke.NONE, NOTHING = OneStroke.NOTHING,
            KIND = OneStroke.KIND, INDEX = OneStroke.INDEX, SIZE = OneStroke.SIZE;
    private static final String[] FAR_OFF = {"MIN", "MAX"};

    public static void main(String[] args) {
        sheet();
        sheetSizes();
        sheetMissing();
        sheetAllZero();
        mark();
        markShorts();
        markFloats();
        markNoNumber();
        pour();
        pourHeld();
        reads();
        readsPlaces();
        copy();
        copyIndex();
        copyAsTheyWere();
        lay();
        layForGood();
        ask();
        item();
        rest();
        Run.end("SheetsEdgesTest", 29, 37);
    }

    private static void sheet() {
        String words = "BAD: sheet, sort, n above 24; SIZE.";
        Run.rich(29, words).stays("sheet(-1, 0, 1)", BAD).stays("sheet(4, 0, 1)", BAD).stays("sheet(0, -2, 1)", BAD)
                .stays("sheet(0, 2, 1)", BAD).stays("sheet(0, 0, 25)", BAD).stays("sheet(0, 1, 25)", BAD)
                .stays("sheet(0, 0, -1)", SIZE).stays("sheet(0, 1, -1)", SIZE).stays("sheet(3, 0, 25)", BAD)
                .stays("sheet(3, 0, -1)", SIZE).stays("sheet(4, 0, -1)", BAD).stays("sheet(-1, -1, 0)", BAD)
                .stays("sheet(4, -1, 0)", BAD).stays("sheet(0, 2, -1)", BAD).stays("sheet(0, -2, -1)", BAD)
                .stays("sheet(4, 2, 25)", BAD);
        for (String far : FAR_OFF) {
            Run.rich(29, words).stays("sheet(" + far + ", 0, 1)", BAD).stays("sheet(0, " + far + ", 1)", BAD)
                    .stays("sheet(0, 0, " + far + ")", far.equals("MIN") ? SIZE : BAD);
        }
        Run.of(29, "SHEETS 0 .. 3 are rows of shorts (sort 0) or floats (1; whole numbers), with 0 to 24 places")
                .due("sheet(0, 0, 0)", 0).due("sheet(0, 0, 24)", 24).due("sheet(0, 1, 0)", 0).due("sheet(0, 1, 24)", 24)
                .due("sheet(3, 0, 1)", 1).due("sheet(3, 1, 1)", 1).places(3, 0).due("sheet(3, 0, 0)", 0).places(3)
                .due("sheet(1, 0, 24)", 24).due("mark(1, 23, 5)", 1).stays("mark(1, 24, 5)", INDEX);
    }

    private static void sheetSizes() {
        String words = "SIZE: a number of places is below 0";
        for (int sort = 0; sort < 2; sort++) {
            Run.rich(29, words).stays("sheet(2, " + sort + ", -1)", SIZE).stays("sheet(2, " + sort + ", MIN)", SIZE)
                    .due("sheet(2, " + sort + ", 0)", 0).due("sheet(2, " + sort + ", 1)", 1);
        }
    }

    private static void sheetMissing() {
        for (String n : new String[] {"MIN", "-1", "0", "24", "25", "MAX"}) {
            Run.rich(29, "(sort -1: MISSING, n any): n (0).").due("sheet(1, -1, " + n + ")", 0)
                    .stays("mark(1, 0, 1)", NOTHING).stays("sheet(1, -1, " + n + ")", 0);
        }
        Run.of(29, "(sort -1: MISSING, n any): n (0).").due("sheet(0, 0, 0)", 0).stays("pour(0)", 0)
                .due("sheet(0, -1, 3)", 0).stays("pour(0)", NOTHING).due("sheet(0, 1, 0)", 0).stays("pour(0)", 0);
    }

    private static void sheetAllZero() {
        String words = "A SHEET becomes a row of n places of a sort, all 0";
        Run.of(29, words).row(2, 1, "5", "NONE", "7").due("sheet(2, 1, 4)", 4).places(2, 0, 0, 0, 0);
        Run.of(29, words).row(2, 1, "5", "NONE", "7").due("sheet(2, 0, 2)", 2).places(2, 0, 0).due("sheet(2, 0, 3)", 3)
                .places(2, 0, 0, 0);
        Run.of(29, words).row(2, 0, "5", "6").due("sheet(2, -1, 0)", 0).due("sheet(2, 1, 3)", 3).places(2, 0, 0, 0);
        Run.of(29, words).row(2, 0, "5", "6").row(1, 0, "7").due("sheet(2, 0, 1)", 1).places(2, 0).places(1, 7);
    }

    private static void mark() {
        String words = "BAD: sheet; NOTHING; INDEX; KIND: NONE in a row of shorts; BAD: v of floats.";
        Run.rich(30, words).stays("mark(-1, 0, 1)", BAD).stays("mark(4, 0, 1)", BAD).stays("mark(3, 0, 1)", NOTHING)
                .stays("mark(0, -1, 1)", INDEX).stays("mark(0, 3, 1)", INDEX).stays("mark(0, 2, NONE)", KIND)
                .stays("mark(1, 3, 100000)", BAD).stays("mark(1, 4, 1)", INDEX).stays("mark(1, -1, 1)", INDEX)
                .stays("mark(2, 0, 1)", INDEX).stays("mark(2, 0, NONE)", INDEX).stays("mark(4, 99, NONE)", BAD)
                .stays("mark(-1, -1, 100000)", BAD).stays("mark(3, 99, NONE)", NOTHING)
                .stays("mark(3, -1, 100000)", NOTHING).stays("mark(0, 3, NONE)", INDEX)
                .stays("mark(0, -1, NONE)", INDEX).stays("mark(1, 4, 100000)", INDEX)
                .stays("mark(1, -1, -100000)", INDEX).stays("mark(1, 4, NONE)", INDEX);
        for (String far : FAR_OFF) {
            Run.rich(30, words).stays("mark(" + far + ", 0, 1)", BAD).stays("mark(0, " + far + ", 1)", INDEX)
                    .stays("mark(1, " + far + ", 1)", INDEX).stays("mark(1, 0, " + far + ")", BAD);
        }
        Run.rich(30, words).due("mark(0, 0, 1)", 1).due("mark(0, 2, 2)", 1).places(0, 1, -6, 2).due("mark(1, 0, 1)", 1)
                .due("mark(1, 3, 2)", 1).places(1, 1, KIND, -9, 2);
    }

    private static void markShorts() {
        String words = "of shorts its lowest 16 bits";
        String[][] due = {{"0", "0"}, {"32767", "32767"}, {"32768", "-32768"}, {"-32768", "-32768"},
            {"-32769", "32767"}, {"65535", "-1"}, {"65536", "0"}, {"65537", "1"}, {"-65536", "0"}, {"-65537", "-1"},
            {"MIN", "0"}, {"MAX", "-1"}, {"99999", "-31073"}, {"100000", "-31072"}, {"-1", "-1"}};
        for (String[] one : due) {
            Run.of(30, words).calls("sheet(0, 0, 1)").due("mark(0, 0, " + one[0] + ")", 1)
                    .places(0, Integer.parseInt(one[1]));
        }
        Run.of(30, "KIND: NONE in a row of shorts").row(0, 0, "4").stays("mark(0, 0, NONE)", KIND)
                .due("mark(0, 0, " + (NONE + 1) + ")", 1).places(0, (short) (NONE + 1))
                .due("mark(0, 0, " + (NONE - 1) + ")", 1).places(0, (short) (NONE - 1)).due("mark(0, 0, BAD)", 1)
                .places(0, (short) BAD);
    }

    private static void markFloats() {
        String words = "of floats v, -99999 .. 99999; NONE: NO NUMBER";
        Run.of(30, words).row(0, 1, "4", "5").stays("mark(0, 0, -100000)", BAD).due("mark(0, 0, -99999)", 1)
                .due("mark(0, 1, 99999)", 1).stays("mark(0, 1, 100000)", BAD)
                .stays("mark(0, 1, " + (NONE + 1) + ")", BAD).stays("mark(0, 1, " + (NONE - 1) + ")", BAD)
                .places(0, -99999, 99999).due("mark(0, 1, NONE)", 1).places(0, -99999, KIND)
                .stays("mark(0, 1, NONE)", 1).stays("mark(0, 1, 100000)", BAD).due("mark(0, 1, 0)", 1)
                .places(0, -99999, 0).due("mark(0, 0, 32768)", 1).places(0, 32768, 0);
    }

    private static void markNoNumber() {
        String words = "A place of floats may be NO NUMBER.";
        Run.of(30, words).calls("sheet(0, 1, 24)").due("mark(0, 0, NONE)", 1).due("mark(0, 23, NONE)", 1)
                .stays("mark(0, 24, NONE)", INDEX).stays("mark(0, -1, NONE)", INDEX).due("lay(0, 2, 0)", 0)
                .due("item(0, 0)", KIND).due("item(0, 1)", 0).due("item(0, 23)", KIND);
    }

    private static void pour() {
        String words = "how many are otherwise then. BAD; NOTHING.";
        Run.of(31, words).stays("pour(-1)", BAD).stays("pour(4)", BAD).stays("pour(0)", NOTHING)
                .stays("pour(3)", NOTHING).row(3, 0, "1", "2").stays("pour(3)", 0);
        Run.rich(31, words).stays("pour(-1)", BAD).stays("pour(4)", BAD).stays("pour(MIN)", BAD).stays("pour(MAX)", BAD)
                .stays("pour(3)", NOTHING).stays("pour(2)", 0).due("pour(0)", 3).each(1, 5, 1, 7, 7)
                .stays("pour(0)", 0);
        Run.of(31, words).calls("drummer(0, 4)", "drummer(0, 5)").row(0, 0, "4", "5").stays("pour(0)", 0)
                .row(0, 0, "4", "6").due("pour(0)", 1).row(0, 0, "1", "2").due("pour(0)", 2).each(1, 1, 2);
        Run ten = Run.of(31, words).times(10, "drummer(0, 4)")
                .row(0, 0, "1", "2", "3", "5", "5", "6", "7", "8", "9", "9", "3", "3");
        ten.due("pour(0)", 10).each(1, 1, 2, 3, 5, 5, 6, 7, 8, 9, 9);
    }

    private static void pourHeld() {
        String words = "STARTS of DRUMMERS, by numbers, become the places of a SHEET from 0 on (each held within 1 .."
                + " 9; NO NUMBER, and beyond the SHEET: they stay)";
        Run.of(31, words).times(6, "drummer(0, 5)").row(0, 0, "0", "1", "9", "10", "-1", "32767").due("pour(0)", 6)
                .each(1, 1, 1, 9, 9, 1, 9).stays("pour(0)", 0);
        Run.of(31, words).times(4, "drummer(0, 5)").row(0, 1, "99999", "-99999", "NONE").due("pour(0)", 2)
                .each(1, 9, 1, 5, 5);
        Run.of(31, words).calls("drummer(0, 9)", "drummer(0, 1)").row(0, 0, "10", "0").stays("pour(0)", 0);
        Run.of(31, words).calls("drummer(0, 9)").row(0, 0, "3", "4", "5").due("pour(0)", 1).each(1, 3)
                .due("drummer(0, 6)", 1).each(1, 3, 6);
        Run.of(31, words).times(2, "drummer(0, 5)").row(0, 1, "NONE", "NONE").stays("pour(0)", 0);
        Run.of(31, words).calls("drummer(0, 5)", "set(0, 2, 7)").row(0, 0, "3").due("pour(0)", 1).each(2, 7).each(7, 1)
                .due("count(9)", 1);
    }

    private static void reads() {
        String words = "BAD; NOTHING; NONE: there is none.";
        Run.of(32, words).stays("reads(0, 0)", BAD).stays("reads(4, 0)", BAD).calls("sheet(0, 0, 1)")
                .stays("reads(0, 0)", BAD).calls("drummer(0, 1)").stays("reads(-1, 0)", BAD).stays("reads(0, -1)", BAD)
                .stays("reads(0, 1)", BAD).stays("reads(4, 0)", BAD).stays("reads(0, 0)", NONE)
                .stays("reads(3, 0)", NOTHING).stays("reads(3, 1)", BAD).stays("reads(3, -1)", BAD)
                .stays("reads(4, 1)", BAD).calls("sheet(3, 1, 1)").stays("reads(3, 0)", NONE);
        for (String far : FAR_OFF) {
            Run.rich(32, words).stays("reads(" + far + ", 0)", BAD).stays("reads(0, " + far + ")", BAD);
        }
        Run.rich(32, words).stays("reads(3, 0)", NOTHING).stays("reads(0, 4)", BAD).stays("reads(0, -1)", BAD)
                .stays("reads(2, 3)", NONE).changesNothing("reads(0, 0)").changesNothing("reads(1, 3)");
        Run.of(32, words).times(10, "drummer(0, 1)").calls("sheet(0, 0, 24)").stays("reads(0, 9)", NONE)
                .stays("reads(0, 10)", BAD);
    }

    private static void readsPlaces() {
        String words = "The first place k (of numbers alone) at which a SHEET is not COUNT of a DRUMMER behind k"
                + " BEATS.";
        Run.of(32, words).calls("drummer(0, 5)", "set(0, 2, 7)").row(0, 0, "7", "8", "9", "0", "0")
                .stays("reads(0, 0)", NONE).calls("mark(0, 0, 6)").stays("reads(0, 0)", 0).calls("mark(0, 4, 1)")
                .stays("reads(0, 0)", 0).calls("mark(0, 0, 7)").stays("reads(0, 0)", 4).calls("mark(0, 1, -8)")
                .stays("reads(0, 0)", 1).row(1, 1, "NONE", "8", "NONE", "NONE", "1").stays("reads(1, 0)", 4)
                .calls("mark(1, 4, NONE)").stays("reads(1, 0)", NONE).calls("mark(1, 0, 8)").stays("reads(1, 0)", 0)
                .row(2, 0).stays("reads(2, 0)", NONE).row(2, 1, "NONE").stays("reads(2, 0)", NONE);
        Run full = Run.of(32, words).calls("drummer(0, 5)", "sheet(0, 1, 24)");
        full.stays("reads(0, 0)", NONE).calls("mark(0, 23, 1)").stays("reads(0, 0)", 23);
        Run.of(32, words).calls("drummer(0, 9)", "drummer(0, 9)", "set(0, 2, 8)").row(0, 0, "0", "9", "0", "0")
                .stays("reads(0, 1)", NONE).calls("mark(0, 3, 9)").stays("reads(0, 1)", 3);
        Run.of(32, "without the bound of THE BEAT: nothing changes").calls("drummer(0, 5)").toBeat(9999)
                .calls("set(0, 2, 7)").row(0, 0, "7", "8", "9", "0").stays("reads(0, 0)", NONE).calls("mark(0, 3, 9)")
                .stays("reads(0, 0)", 3);
    }

    private static void copy() {
        String words = "BAD; NOTHING; KIND: they are not of one sort; INDEX.";
        Run.rich(33, words).stays("copy(-1, 0, 0, 0, 1)", BAD).stays("copy(4, 0, 0, 0, 1)", BAD)
                .stays("copy(0, 0, -1, 0, 1)", BAD).stays("copy(0, 0, 4, 0, 1)", BAD)
                .stays("copy(3, 0, 0, 0, 1)", NOTHING).stays("copy(0, 0, 3, 0, 1)", NOTHING)
                .stays("copy(3, 0, 3, 0, 0)", NOTHING).stays("copy(0, 0, 1, 0, 1)", KIND)
                .stays("copy(1, 0, 0, 0, 1)", KIND).stays("copy(0, 0, 1, 0, 0)", KIND)
                .stays("copy(1, 0, 2, 0, 0)", KIND).stays("copy(0, 0, 2, 0, 1)", INDEX)
                .stays("copy(3, 0, 4, 0, 1)", BAD).stays("copy(-1, 0, 3, 0, 1)", BAD)
                .stays("copy(4, 99, 1, 99, -1)", BAD).stays("copy(3, 99, 0, 99, -1)", NOTHING)
                .stays("copy(1, 0, 3, -1, 99)", NOTHING).stays("copy(0, 99, 1, 99, 99)", KIND)
                .stays("copy(1, -1, 0, 0, 1)", KIND).stays("copy(1, 0, 0, 0, -1)", KIND);
        for (String far : FAR_OFF) {
            Run.rich(33, words).stays("copy(" + far + ", 0, 0, 0, 1)", BAD).stays("copy(0, 0, " + far + ", 0, 1)", BAD)
                    .stays("copy(0, " + far + ", 0, 0, 1)", INDEX).stays("copy(0, 0, 0, " + far + ", 1)", INDEX)
                    .stays("copy(0, 0, 0, 0, " + far + ")", INDEX)
                    .stays("copy(0, " + far + ", 0, " + far + ", " + far + ")", INDEX);
        }
        Run.of(33, words).row(3, 0, "1", "2").row(0, 0, "3", "4").due("copy(3, 0, 0, 0, 2)", 2).places(0, 1, 2)
                .due("copy(0, 1, 3, 0, 1)", 1).places(3, 2, 2);
    }

    /** From five places to three. */
    private static void copyIndex() {
        int[][] due = {{-1, 0, 1, INDEX}, {0, -1, 1, INDEX}, {0, 0, 1, 1}, {0, 0, 3, 3}, {0, 0, 4, INDEX},
            {0, 0, 5, INDEX}, {2, 0, 3, 3}, {3, 0, 3, INDEX}, {3, 0, 2, 2}, {4, 0, 1, 1}, {5, 0, 1, INDEX},
            {4, 0, 2, INDEX}, {0, 2, 1, 1}, {0, 3, 1, INDEX}, {0, 1, 2, 2}, {0, 1, 3, INDEX}, {0, 0, 0, 0},
            {5, 3, 0, 0}, {6, 3, 0, INDEX}, {5, 4, 0, INDEX}, {-1, 0, 0, INDEX}, {0, -1, 0, INDEX}, {0, 0, -1, INDEX},
            {2, 2, -1, INDEX}, {2, 2, -2, INDEX}};
        for (int[] one : due) {
            String call = "copy(0, " + one[0] + ", 1, " + one[1] + ", " + one[2] + ")";
            Run run = Run.of(33, "INDEX: there is no such place").row(0, 0, "1", "2", "3", "4", "5")
                    .row(1, 0, "6", "7", "8");
            if (one[3] == INDEX || one[3] == 0) {
                run.stays(call, one[3]);
            } else {
                int[] then = {6, 7, 8};
                for (int k = 0; k < one[2]; k++) {
                    then[one[1] + k] = 1 + one[0] + k;
                }
                run.due(call, one[3]).places(0, 1, 2, 3, 4, 5).places(1, then);
            }
        }
        Run.of(33, "INDEX: there is no such place").calls("sheet(0, 0, 0)", "sheet(1, 0, 0)")
                .stays("copy(0, 0, 1, 0, 0)", 0).stays("copy(0, 0, 1, 0, 1)", INDEX).stays("copy(0, 1, 1, 0, 0)", INDEX)
                .stays("copy(0, 0, 1, 1, 0)", INDEX);
        Run.of(33, "So many places of a SHEET come to another one (or the same)")
                .calls("sheet(0, 1, 24)", "sheet(1, 1, 24)", "mark(0, 23, 7)").due("copy(0, 0, 1, 0, 24)", 24)
                .due("lay(0, 2, 1)", 0).due("item(0, 23)", 7).due("item(0, 22)", 0).stays("copy(0, 0, 1, 0, 25)", INDEX)
                .stays("copy(0, 1, 1, 0, 24)", INDEX).stays("copy(0, 0, 1, 1, 24)", INDEX);
    }

    private static void copyAsTheyWere() {
        String words = "So many places of a SHEET come to another one (or the same), as they were: many.";
        Run.of(33, words).row(0, 0, "1", "2", "3", "4", "5").due("copy(0, 0, 0, 1, 4)", 4).places(0, 1, 1, 2, 3, 4);
        Run.of(33, words).row(0, 0, "1", "2", "3", "4", "5").due("copy(0, 1, 0, 0, 4)", 4).places(0, 2, 3, 4, 5, 5);
        Run.of(33, words).row(0, 0, "1", "2", "3", "4", "5").stays("copy(0, 0, 0, 0, 5)", 5)
                .stays("copy(0, 0, 0, 1, 5)", INDEX);
        Run.of(33, words).row(0, 1, "1", "NONE", "3").row(1, 1, "NONE", "9", "9").due("copy(0, 0, 1, 0, 3)", 3)
                .places(1, 1, KIND, 3);
        Run.of(33, words).row(0, 0, "1", "2").row(1, 0, "3", "4").calls("copy(0, 0, 1, 0, 2)", "mark(0, 0, 9)")
                .places(1, 1, 2);
    }

    private static void lay() {
        String words = "BAD: slot, thing, k; NOTHING: that SHEET is MISSING.";
        Run.of(34, words).stays("lay(0, 1, 0)", BAD).stays("lay(0, 1, -1)", BAD).stays("lay(0, 2, 0)", NOTHING)
                .stays("lay(0, 2, 3)", NOTHING).stays("lay(0, 2, 4)", BAD).stays("lay(0, 2, -1)", BAD)
                .stays("lay(5, 2, 0)", BAD).stays("lay(-1, 2, 0)", BAD).stays("lay(0, 0, MIN)", 0)
                .stays("lay(0, 0, MAX)", 0).due("lay(0, 3, MIN)", 0).due("rest(0, MAX)", -1).due("lay(0, 3, MAX)", 3);
        for (int slot = 1; slot < 5; slot++) {
            Run.rich(34, words).stays("lay(" + slot + ", -1, 0)", BAD).stays("lay(" + slot + ", 4, 0)", BAD)
                    .stays("lay(" + slot + ", 1, -1)", BAD).stays("lay(" + slot + ", 1, 4)", BAD)
                    .stays("lay(" + slot + ", 2, -1)", BAD).stays("lay(" + slot + ", 2, 4)", BAD)
                    .stays("lay(" + slot + ", 2, 3)", NOTHING)
                    .due("lay(" + slot + ", 1, 3)", new int[] {0, 1, 2, 3, 2}[slot]).due("lay(" + slot + ", 2, 2)", 1)
                    .due("lay(" + slot + ", 3, 99)", 2).due("lay(" + slot + ", 0, 99)", 3)
                    .stays("lay(" + slot + ", 0, -99)", 0).stays("rest(" + slot + ", 1)", NOTHING);
        }
        Run.rich(34, words).stays("lay(-1, 3, 0)", BAD).stays("lay(5, 3, 0)", BAD).stays("lay(-1, 0, 0)", BAD)
                .stays("lay(5, 0, 0)", BAD).stays("lay(5, 2, 3)", BAD).stays("lay(5, 4, 9)", BAD).due("lay(0, 3, 7)", 0)
                .due("lay(4, 3, 8)", 2).due("rest(0, 100)", 7).due("rest(4, 100)", 8);
        for (String far : FAR_OFF) {
            Run.rich(34, words).stays("lay(" + far + ", 0, 0)", BAD).stays("lay(0, " + far + ", 0)", BAD)
                    .stays("lay(1, 1, " + far + ")", BAD).stays("lay(2, 2, " + far + ")", BAD);
        }
        Run.of(34, words).times(10, "drummer(0, 4)").due("lay(0, 1, 9)", 0).stays("lay(0, 1, 10)", BAD)
                .due("ask(0, 0)", 4);
    }

    private static void layForGood() {
        String drummer = "a DRUMMER (as it is then, for good)";
        Run.of(34, drummer).calls("drummer(1, 3)", "lay(0, 1, 0)", "set(0, 1, 9)", "turns(0, 2)").due("ask(0, 1)", 7)
                .due("ask(0, 2)", KIND).calls("lay(1, 1, 0)").due("ask(1, 2)", 11).due("ask(0, 1)", 7);
        Run.of(34, drummer).calls("keep()", "drummer(1, 3)", "lay(0, 1, 0)", "back()").due("ask(0, 1)", 7)
                .stays("lay(1, 1, 0)", BAD);
        Run.of(34, drummer).calls("drummer(1, 3)", "drummer(0, 8)", "lay(0, 1, 0)", "lay(1, 1, 1)").due("ask(0, 0)", 7)
                .due("ask(1, 0)", 8);
        String sheet = "a SHEET (a row of its own, as it was then)";
        Run.of(34, sheet).row(0, 0, "4", "5").calls("lay(0, 2, 0)", "mark(0, 0, 9)").due("item(0, 0)", 4)
                .calls("sheet(0, 1, 1)").due("item(0, 1)", 5).due("item(0, 2)", INDEX).calls("sheet(0, -1, 0)")
                .due("item(0, 0)", 4).stays("lay(1, 2, 0)", NOTHING);
        Run.of(34, sheet).row(0, 0, "4", "5").row(1, 0, "6", "7").calls("lay(0, 2, 0)", "copy(1, 0, 0, 0, 2)")
                .due("item(0, 1)", 5).calls("lay(1, 2, 0)").due("item(1, 1)", 7).due("item(0, 1)", 5);
        Run.of(34, sheet).row(0, 0, "4", "5", "6").row(1, 1, "NONE").calls("lay(0, 2, 0)").due("lay(0, 2, 1)", 2)
                .due("item(0, 0)", KIND).due("item(0, 1)", INDEX).calls("sheet(2, 0, 0)").due("lay(0, 2, 2)", 2)
                .due("item(0, 0)", INDEX);
    }

    private static void ask() {
        String words = "WORTH of the DRUMMER in a SLOT, taken for one of a KIND (0 .. 5). BAD; NOTHING; KIND: it is no"
                + " DRUMMER, or not of that KIND, nor of one under it.";
        Run.rich(35, words).stays("ask(-1, 0)", BAD).stays("ask(5, 0)", BAD).stays("ask(1, -1)", BAD)
                .stays("ask(1, 6)", BAD).stays("ask(0, 0)", NOTHING).stays("ask(0, 5)", NOTHING).stays("ask(0, 6)", BAD)
                .stays("ask(0, -1)", BAD).stays("ask(5, 6)", BAD).stays("ask(1, 0)", 14).stays("ask(1, 2)", 14)
                .stays("ask(1, 1)", KIND).stays("ask(1, 4)", KIND).stays("ask(1, 5)", KIND).stays("ask(2, 0)", KIND)
                .stays("ask(3, 0)", KIND).stays("ask(4, 0)", KIND).stays("ask(4, 6)", BAD).stays("ask(3, -1)", BAD);
        for (String far : FAR_OFF) {
            Run.rich(35, words).stays("ask(" + far + ", 0)", BAD).stays("ask(1, " + far + ")", BAD);
        }
        String[] under = {"100000", "110000", "101000", "110100", "101010", "100001"};
        int[] worth = {4, 8, 16, 16, 11, 6};
        for (int k = 0; k < 6; k++) {
            Run run = Run.of(35, words).calls("drummer(" + k + ", 4)", "lay(4, 1, 0)");
            for (int kind = 0; kind < 6; kind++) {
                run.stays("ask(4, " + kind + ")", under[k].charAt(kind) == '1' ? worth[k] : KIND);
            }
        }
        Run.of(35, words).calls("drummer(0, 4)", "lay(0, 1, 0)", "lay(0, 3, 0)").stays("ask(0, 0)", KIND)
                .calls("lay(0, 0, 0)").stays("ask(0, 0)", NOTHING);
    }

    private static void item() {
        String words = "A place of the SHEET in a SLOT. BAD: slot; NOTHING; KIND: it is no SHEET; INDEX; KIND: NO"
                + " NUMBER.";
        Run.rich(36, words).stays("item(-1, 0)", BAD).stays("item(5, 0)", BAD).stays("item(0, 0)", NOTHING)
                .stays("item(0, -1)", NOTHING).stays("item(1, 0)", KIND).stays("item(3, 0)", KIND)
                .stays("item(1, -1)", KIND).stays("item(3, 99)", KIND).stays("item(2, -1)", INDEX)
                .stays("item(2, 0)", 8).stays("item(2, 1)", KIND).stays("item(2, 3)", 99999).stays("item(2, 4)", INDEX)
                .stays("item(4, 2)", 7).stays("item(4, 3)", INDEX).stays("item(5, -1)", BAD);
        for (String far : FAR_OFF) {
            Run.rich(36, words).stays("item(" + far + ", 0)", BAD).stays("item(2, " + far + ")", INDEX)
                    .stays("item(1, " + far + ")", KIND).stays("item(0, " + far + ")", NOTHING);
        }
        Run.of(36, words).calls("sheet(0, 0, 0)", "lay(0, 2, 0)").stays("item(0, 0)", INDEX)
                .stays("item(0, -1)", INDEX);
        Run.of(36, words).calls("sheet(0, 0, 24)", "mark(0, 23, -32768)", "lay(0, 2, 0)").stays("item(0, 23)", -32768)
                .stays("item(0, 24)", INDEX);
    }

    private static void rest() {
        String words = "The rest of the number in a SLOT by n. BAD: slot; NOTHING; KIND: it is no number; NO: n is 0.";
        Run.rich(37, words).stays("rest(-1, 1)", BAD).stays("rest(5, 1)", BAD).stays("rest(0, 1)", NOTHING)
                .stays("rest(1, 1)", KIND).stays("rest(2, 1)", KIND).stays("rest(3, 0)", NO).stays("rest(3, 1)", 0)
                .stays("rest(3, -1)", 0).stays("rest(3, 5)", -2).stays("rest(3, -5)", -2).stays("rest(-1, 0)", BAD)
                .stays("rest(5, 0)", BAD).stays("rest(0, 0)", NOTHING).stays("rest(1, 0)", KIND)
                .stays("rest(4, 0)", KIND).stays("rest(3, MIN)", -17).stays("rest(3, MAX)", -17)
                .stays("rest(MIN, 1)", BAD).stays("rest(MAX, 1)", BAD);
        Run.of(37, "/ cuts towards 0").calls("lay(4, 3, 17)").stays("rest(4, 5)", 2).stays("rest(4, -5)", 2)
                .stays("rest(4, 17)", 0).stays("rest(4, 18)", 17);
        Run.of(37, words).calls("lay(0, 3, MIN)").stays("rest(0, -1)", 0).stays("rest(0, 1)", 0)
                .stays("rest(0, MIN)", 0).stays("rest(0, MAX)", -1).stays("rest(0, 10)", -8).calls("lay(0, 3, MAX)")
                .stays("rest(0, MAX)", 0).stays("rest(0, MIN)", Integer.MAX_VALUE).stays("rest(0, 10)", 7)
                .calls("lay(0, 3, 0)").stays("rest(0, 5)", 0).stays("rest(0, 0)", NO);
    }
}
