/** Promises 29 to 37: sheet, mark, pour, reads, copy, lay, ask, item, rest. */
public final class SheetsTest {
    private static final int BAD = OneStroke.BAD, NO = OneStroke.NO, NONE = OneStroke.NONE, NOTHING = OneStroke.NOTHING,
            KIND = OneStroke.KIND, INDEX = OneStroke.INDEX, SIZE = OneStroke.SIZE;
    private static final int MIN = Integer.MIN_VALUE, MAX = Integer.MAX_VALUE;

    public static void main(String[] args) {
        sheet();
        markShorts();
        markFloats();
        pour();
        reads();
        copy();
        copyRefused();
        lay();
        laidForGood();
        ask();
        item();
        rest();
        Due.end("SheetsTest");
    }

    /** The places of a SHEET, told through SLOT 4. */
    private static void places(String when, OneStroke x, int sheet, int... want) {
        x.lay(4, 2, sheet);
        for (int k = 0; k < want.length; k++) {
            Due.due("place " + k + " " + when, x.item(4, k), want[k]);
        }
        Due.due("no place " + want.length + " " + when, x.item(4, want.length), INDEX);
    }

    private static OneStroke row(OneStroke x, int sheet, int sort, int... places) {
        x.sheet(sheet, sort, places.length);
        for (int k = 0; k < places.length; k++) {
            x.mark(sheet, k, places[k]);
        }
        return x;
    }

    private static void sheet() {
        OneStroke x = new OneStroke();
        Due.due("sheet(0, 0, 3)", x.sheet(0, 0, 3), 3);
        places("at first", x, 0, 0, 0, 0);
        Due.due("sheet(3, 1, 24)", x.sheet(3, 1, 24), 24);
        Due.due("sheet(3, 1, 0)", x.sheet(3, 1, 0), 0);
        places("of no places", x, 3);
        x.mark(0, 1, 5);
        Due.due("sheet(0, 0, 25)", x.sheet(0, 0, 25), BAD);
        Due.due("sheet(0, 0, -1)", x.sheet(0, 0, -1), SIZE);
        Due.due("sheet(0, 1, MIN)", x.sheet(0, 1, MIN), SIZE);
        Due.due("sheet(0, 1, MAX)", x.sheet(0, 1, MAX), BAD);
        Due.due("sheet(0, 2, 3)", x.sheet(0, 2, 3), BAD);
        Due.due("sheet(0, -2, 3)", x.sheet(0, -2, 3), BAD);
        Due.due("sheet(0, 2, -1)", x.sheet(0, 2, -1), BAD);
        Due.due("sheet(4, 0, 3)", x.sheet(4, 0, 3), BAD);
        Due.due("sheet(-1, 0, 3)", x.sheet(-1, 0, 3), BAD);
        Due.due("sheet(4, -1, 3)", x.sheet(4, -1, 3), BAD);
        Due.due("sheet(4, 0, -3)", x.sheet(4, 0, -3), BAD);
        places("behind what was refused", x, 0, 0, 5, 0);
        Due.due("sheet(0, 0, 4)", x.sheet(0, 0, 4), 4);
        places("made again", x, 0, 0, 0, 0, 0);
        Due.due("sheet(0, -1, 7)", x.sheet(0, -1, 7), 0);
        Due.due("MISSING then", x.mark(0, 0, 1), NOTHING);
        Due.due("sheet(0, -1, -7)", x.sheet(0, -1, -7), 0);
        Due.due("sheet(0, -1, 99)", x.sheet(0, -1, 99), 0);
        Due.due("a SHEET of no places is not MISSING", x.pour(3), 0);
        Due.due("one not made is", x.pour(2), NOTHING);
    }

    private static void markShorts() {
        OneStroke x = new OneStroke();
        x.sheet(1, 0, 4);
        Due.due("mark(1, 0, 32767)", x.mark(1, 0, 32767), 1);
        Due.due("mark(1, 1, 32768)", x.mark(1, 1, 32768), 1);
        Due.due("mark(1, 2, 65537)", x.mark(1, 2, 65537), 1);
        Due.due("mark(1, 3, MIN)", x.mark(1, 3, MIN), 1);
        places("of shorts", x, 1, 32767, -32768, 1, 0);
        Due.due("mark(1, 3, -70000)", x.mark(1, 3, -70000), 1);
        Due.due("mark(1, 3, NONE)", x.mark(1, 3, NONE), KIND);
        places("of shorts then", x, 1, 32767, -32768, 1, (short) -70000);
        Due.due("mark(1, 4, 0)", x.mark(1, 4, 0), INDEX);
        Due.due("mark(1, -1, 0)", x.mark(1, -1, 0), INDEX);
        Due.due("mark(1, 4, NONE)", x.mark(1, 4, NONE), INDEX);
        Due.due("mark(0, 4, NONE)", x.mark(0, 4, NONE), NOTHING);
        Due.due("mark(4, 0, 0)", x.mark(4, 0, 0), BAD);
        Due.due("mark(-1, 0, 0)", x.mark(-1, 0, 0), BAD);
    }

    private static void markFloats() {
        OneStroke x = new OneStroke();
        x.sheet(2, 1, 4);
        Due.due("mark(2, 0, 99999)", x.mark(2, 0, 99999), 1);
        Due.due("mark(2, 1, -99999)", x.mark(2, 1, -99999), 1);
        Due.due("mark(2, 2, NONE)", x.mark(2, 2, NONE), 1);
        Due.due("mark(2, 0, 100000)", x.mark(2, 0, 100000), BAD);
        Due.due("mark(2, 1, -100000)", x.mark(2, 1, -100000), BAD);
        Due.due("mark(2, 1, MIN)", x.mark(2, 1, MIN), BAD);
        Due.due("mark(2, 4, 100000)", x.mark(2, 4, 100000), INDEX);
        places("of floats", x, 2, 99999, -99999, KIND, 0);
        Due.due("a number again", x.mark(2, 2, -1), 1);
        places("of floats then", x, 2, 99999, -99999, -1, 0);
    }

    private static void pour() {
        OneStroke x = new OneStroke();
        for (int k = 0; k < 6; k++) {
            x.drummer(k, 5);
        }
        row(x, 0, 1, 7, 5, NONE, 99999, -99999);
        Due.due("pour(0)", x.pour(0), 3);
        int[] want = {7, 5, 5, 9, 1, 5};
        for (int k = 0; k < 6; k++) {
            Due.due("START of " + k, x.told(k, 1), want[k]);
        }
        Due.due("pour(0) again", x.pour(0), 0);
        row(x, 1, 0, 0, 10, 2, 9, 1, 5, 8, 8);
        Due.due("pour(1)", x.pour(1), 3);
        int[] then = {1, 9, 2, 9, 1, 5};
        for (int k = 0; k < 6; k++) {
            Due.due("START of " + k + " then", x.told(k, 1), then[k]);
        }
        Due.due("pour(2)", x.pour(2), NOTHING);
        Due.due("pour(4)", x.pour(4), BAD);
        Due.due("pour(-1)", x.pour(-1), BAD);
    }

    private static void reads() {
        OneStroke x = new OneStroke();
        x.drummer(0, 6);
        x.drummer(0, 6);
        x.order(0);
        row(x, 0, 0, 6, 7, 8, 9, 0);
        Due.due("reads(0, 0)", x.reads(0, 0), NONE);
        Due.due("reads(0, 1)", x.reads(0, 1), 0);
        row(x, 0, 0, 6, 7, 8, 9, 1);
        Due.due("reads at the last place", x.reads(0, 0), 4);
        row(x, 1, 1, NONE, 6, NONE, 8, 0);
        Due.due("reads of numbers alone", x.reads(1, 1), 4);
        x.mark(1, 4, 9);
        Due.due("reads of all of them", x.reads(1, 1), NONE);
        x.sheet(2, 1, 0);
        Due.due("reads of no places", x.reads(2, 0), NONE);
        Due.due("reads(3, 0)", x.reads(3, 0), NOTHING);
        Due.due("reads(3, 2)", x.reads(3, 2), BAD);
        Due.due("reads(0, 2)", x.reads(0, 2), BAD);
        Due.due("reads(0, -1)", x.reads(0, -1), BAD);
        Due.due("reads(4, 0)", x.reads(4, 0), BAD);
        Due.due("reads(-1, 0)", x.reads(-1, 0), BAD);
        Due.due("THE BEAT stays", x.count(1), 0);
    }

    private static void copy() {
        OneStroke x = new OneStroke();
        row(x, 0, 0, 1, 2, 3, 4, 5);
        row(x, 1, 0, 6, 7, 8);
        Due.due("copy(0, 1, 1, 0, 2)", x.copy(0, 1, 1, 0, 2), 2);
        places("of the goal", x, 1, 2, 3, 8);
        places("of the source", x, 0, 1, 2, 3, 4, 5);
        Due.due("copy(0, 0, 0, 1, 4)", x.copy(0, 0, 0, 1, 4), 4);
        places("copied upwards", x, 0, 1, 1, 2, 3, 4);
        Due.due("copy(0, 2, 0, 0, 3)", x.copy(0, 2, 0, 0, 3), 3);
        places("copied downwards", x, 0, 2, 3, 4, 3, 4);
        Due.due("copy(0, 5, 1, 3, 0)", x.copy(0, 5, 1, 3, 0), 0);
        row(x, 2, 1, 9, NONE);
        row(x, 3, 1, 1, 1);
        Due.due("copy(2, 0, 3, 0, 2)", x.copy(2, 0, 3, 0, 2), 2);
        places("of floats", x, 3, 9, KIND);
    }

    private static void copyRefused() {
        OneStroke x = new OneStroke();
        row(x, 0, 0, 1, 2, 3, 4, 5);
        row(x, 1, 0, 6, 7, 8);
        row(x, 2, 1, 9, 9);
        int[][] due = {{0, 0, 1, 0, 4, INDEX}, {0, 0, 1, 1, 3, INDEX}, {0, 3, 1, 0, 3, INDEX}, {0, -1, 1, 0, 1, INDEX},
            {0, 0, 1, -1, 1, INDEX}, {0, 6, 1, 0, 0, INDEX}, {0, 0, 1, 4, 0, INDEX}, {0, MAX, 1, 0, MAX, INDEX},
            {0, MAX, 1, MAX, 1, INDEX}, {0, 0, 1, 0, -1, INDEX}, {0, 2, 1, 2, -2, INDEX}, {0, 0, 1, 0, MIN, INDEX},
            {0, MIN, 1, MIN, MIN, INDEX}, {0, 0, 2, 0, 1, KIND}, {2, 0, 0, 0, 0, KIND}, {2, 9, 0, 9, 9, KIND},
            {0, 0, 3, 0, 1, NOTHING}, {3, 0, 0, 0, 1, NOTHING}, {3, 9, 2, 9, 9, NOTHING}, {3, 0, 3, 0, 0, NOTHING},
            {4, 0, 0, 0, 1, BAD}, {0, 0, 4, 0, 1, BAD}, {-1, 0, 0, 0, 1, BAD}, {3, 0, -1, 0, 1, BAD}};
        for (int[] one : due) {
            Due.due("copy" + java.util.Arrays.toString(one), x.copy(one[0], one[1], one[2], one[3], one[4]), one[5]);
        }
        places("stay", x, 0, 1, 2, 3, 4, 5);
        places("stay, too", x, 1, 6, 7, 8);
    }

    private static void lay() {
        OneStroke x = new OneStroke();
        x.drummer(0, 3);
        x.sheet(0, 0, 1);
        Due.due("lay(0, 1, 0)", x.lay(0, 1, 0), 0);
        Due.due("lay(0, 2, 0)", x.lay(0, 2, 0), 1);
        Due.due("lay(0, 3, MIN)", x.lay(0, 3, MIN), 2);
        Due.due("lay(0, 0, MAX)", x.lay(0, 0, MAX), 3);
        Due.due("lay(0, 0, 0)", x.lay(0, 0, 0), 0);
        x.lay(0, 3, 8);
        int[][] wrong = {{-1, 0, 0, BAD}, {5, 0, 0, BAD}, {0, -1, 0, BAD}, {0, 4, 0, BAD}, {0, 1, 1, BAD}, {0, 1, -1, BAD},
            {0, 2, 4, BAD}, {0, 2, -1, BAD}, {5, 2, 1, BAD}, {0, 2, 1, NOTHING}, {0, 2, 3, NOTHING}};
        for (int[] one : wrong) {
            Due.due("lay" + java.util.Arrays.toString(one), x.lay(one[0], one[1], one[2]), one[3]);
        }
        Due.due("what was refused changes nothing", x.rest(0, 100), 8);
        Due.due("lay(4, 3, 1)", x.lay(4, 3, 1), 0);
        Due.due("SLOTS are by themselves", x.rest(3, 1), NOTHING);
    }

    private static void laidForGood() {
        OneStroke x = new OneStroke();
        x.drummer(1, 3);
        row(x, 0, 0, 4, 5);
        x.keep();
        x.lay(0, 1, 0);
        x.lay(1, 2, 0);
        x.set(0, 1, 9);
        x.turns(0, 2);
        x.mark(0, 0, 1);
        Due.due("the DRUMMER as it was", x.ask(0, 1), 7);
        Due.due("the SHEET as it was", x.item(1, 0), 4);
        x.sheet(0, -1, 0);
        Due.due("though it is MISSING", x.item(1, 1), 5);
        row(x, 1, 1, 7);
        x.lay(1, 2, 1);
        Due.due("another SHEET", x.item(1, 0), 7);
        Due.due("and no more of the first one", x.item(1, 1), INDEX);
        x.lay(0, 1, 0);
        Due.due("the DRUMMER as it is now", x.ask(0, 2), 11);
        x.back();
        Due.due("SLOTS do not go back", x.ask(0, 2), 11);
    }

    private static void ask() {
        OneStroke x = new OneStroke();
        String[] under = {"100000", "110000", "101000", "110100", "101010", "100001"};
        int[] worth = {4, 8, 16, 16, 11, 6};
        for (int k = 0; k < 6; k++) {
            x.drummer(k, 4);
            x.lay(0, 1, k);
            for (int kind = 0; kind < 6; kind++) {
                Due.due("ask(0, " + kind + ") of KIND " + k, x.ask(0, kind), under[k].charAt(kind) == '1' ? worth[k] : KIND);
            }
        }
        x.sheet(0, 0, 2);
        x.lay(1, 2, 0);
        x.lay(2, 3, 0);
        Due.due("ask of a SHEET", x.ask(1, 0), KIND);
        Due.due("ask of a number", x.ask(2, 0), KIND);
        Due.due("ask of nothing", x.ask(3, 0), NOTHING);
        Due.due("ask(3, 6)", x.ask(3, 6), BAD);
        Due.due("ask(0, 6)", x.ask(0, 6), BAD);
        Due.due("ask(0, -1)", x.ask(0, -1), BAD);
        Due.due("ask(5, 0)", x.ask(5, 0), BAD);
        Due.due("ask(-1, 0)", x.ask(-1, 0), BAD);
    }

    private static void item() {
        OneStroke x = new OneStroke();
        x.drummer(0, 4);
        row(x, 0, 1, -8, NONE);
        x.lay(0, 2, 0);
        x.lay(1, 1, 0);
        x.lay(2, 3, 7);
        Due.due("item(0, 0)", x.item(0, 0), -8);
        Due.due("item(0, 1)", x.item(0, 1), KIND);
        Due.due("item(0, 2)", x.item(0, 2), INDEX);
        Due.due("item(0, -1)", x.item(0, -1), INDEX);
        Due.due("item(0, MAX)", x.item(0, MAX), INDEX);
        Due.due("item of a DRUMMER", x.item(1, 9), KIND);
        Due.due("item of a number", x.item(2, 0), KIND);
        Due.due("item of nothing", x.item(3, 0), NOTHING);
        Due.due("item(5, 0)", x.item(5, 0), BAD);
        Due.due("item(-1, 0)", x.item(-1, 0), BAD);
    }

    private static void rest() {
        OneStroke x = new OneStroke();
        x.drummer(0, 4);
        x.sheet(0, 0, 1);
        x.lay(0, 3, -17);
        Due.due("rest(0, 5)", x.rest(0, 5), -2);
        Due.due("rest(0, -5)", x.rest(0, -5), -2);
        x.lay(0, 3, 17);
        Due.due("rest(0, 5) of 17", x.rest(0, 5), 2);
        Due.due("rest(0, -5) of 17", x.rest(0, -5), 2);
        Due.due("rest(0, 100)", x.rest(0, 100), 17);
        Due.due("rest(0, 0)", x.rest(0, 0), NO);
        x.lay(0, 3, MIN);
        Due.due("rest(0, -1) of the least", x.rest(0, -1), 0);
        x.lay(1, 1, 0);
        x.lay(2, 2, 0);
        Due.due("rest of a DRUMMER", x.rest(1, 0), KIND);
        Due.due("rest of a SHEET", x.rest(2, 0), KIND);
        Due.due("rest of nothing", x.rest(3, 0), NOTHING);
        Due.due("rest(5, 0)", x.rest(5, 0), BAD);
        Due.due("rest(-1, 1)", x.rest(-1, 1), BAD);
    }
}
