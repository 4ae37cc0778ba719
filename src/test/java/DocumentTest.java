import java.nio.charset.StandardCharsets;
import java.nio.file.Files;
import java.nio.file.Path;
import java.util.ArrayList;
import java.util.List;
import java.util.regex.Matcher;
import java.util.regex.Pattern;

/**
 * The document from its first line to its last: each sentence is read in its place, and has a test of its own there.
 * The edges of what it says stand in the tests of edges.
 */
public final class DocumentTest {
    private static final Path MAIN = Path.of("src", "main", "java", "OneStroke.java");
    private static final int NONE = OneStroke.NONE, FULL = OneStroke.FULL, KIND = OneStroke.KIND;

    private static String main;

    public static void main(String[] args) throws Exception {
        main = Files.readString(MAIN, StandardCharsets.US_ASCII);
        Document doc = new Document();
        whatItIs(doc);
        whatIsAsked(doc);
        whatElse(doc);
        calls512(doc);
        face(doc);
        DocumentTerms.read(doc);
        theInterfaceSays(doc);
        DocumentPromises.read(doc);
        notPromised(doc);
        doc.end();
        Run.end("DocumentTest", 1, 42);
    }

    /** DRUMMERS of KIND 0 with these STARTS. */
    static Run line(Run run, int... starts) {
        for (int start : starts) {
            run.calls("drummer(0, " + start + ")");
        }
        return run;
    }

    /** Six DRUMMERS with this START, number k of KIND k. */
    static Run kinds(Run run, int start) {
        for (int kind = 0; kind < 6; kind++) {
            run.calls("drummer(" + kind + ", " + start + ")");
        }
        return run;
    }

    /** z behind so many draws. */
    static int drawn(int z, int draws) {
        int one = z;
        for (int k = 0; k < draws; k++) {
            one = one * 1103515245 + 12345;
        }
        return one;
    }

    // ---- What it is

    private static void whatItIs(Document doc) {
        line(doc.says(12, "All at one stroke: a line of drummers in the mountains,"), 1, 2, 3, 4).calls("order(0)")
                .due("all()", 8).due("beats(7)", 0).due("beats(1)", 4).each(6, 8, 8, 8, 8);
        line(doc.says(3, "each of whom hears only two neighbours,"), 1, 1, 1, 1, 1).calls("set(2, 2, 4)")
                .each(8, 0, 1, 0, 1, 0);
        line(doc.says(12, "as far off as the sound takes beats;"), 1, 3, 5, 7)
                .calls("set(0, 3, 2)", "set(1, 3, 2)", "set(2, 3, 2)", "order(0)").due("all()", 8).due("beats(8)", 4);
        kinds(doc.says(4, "kinds of them under one another by how they count to nine and what they hear;"), 5)
                .due("as(3, 1)", 5).due("as(1, 3)", KIND).toBeat(3).law("hear 1").each(8, 1, 1, 1, 1, 1, 0)
                .calls("set(0, 2, 8)", "set(1, 2, 8)", "set(2, 2, 8)", "set(3, 2, 8)", "set(4, 2, 8)", "set(5, 2, 8)")
                .each(10, 9, 8, 9, 8, 0, 9);
        line(doc.says(10, "orders that one is told,"), 4, 6).due("order(1)", 6).each(2, 0, 6);
        line(doc.says(12, "counts that go on beat by beat,"), 4).calls("order(0)", "beats(1)").each(2, 5)
                .calls("beats(1)").each(2, 6);
        Run missed = line(doc.says(7, "some missed by lot;"), 1).calls("order(0)", "miss(50)");
        for (int k = 1, count = 1; count < 9; k++) {
            count += (drawn(1, k) >>> 8) % 100 < 50 ? 0 : 1;
            missed.calls("beats(1)").each(2, count);
        }
    }

    private static void whatIsAsked(Document doc) {
        line(doc.says(3, "who strikes when,"), 7, 5).calls("order(0)", "beats(5)").each(6, 2, 5);
        line(doc.says(15, "when all do at once,"), 7, 8).calls("order(0)").due("all()", 2);
        line(doc.says(16, "how far their strokes are apart,"), 7, 5).calls("order(0)").due("spread(5)", 3)
                .due("spread(4)", NONE);
        line(doc.says(17, "to whom an order is best told,"), 4, 3, 2, 1).due("toWhom(20)", 3);
        line(doc.says(18, "which start would let most strike at once,"), 7, 5).calls("order(0)").due("mend(2, 0)", 1)
                .due("mend(2, 1)", 8).due("mend(2, 2)", 2);
        line(doc.says(19, "how far a sound goes,"), 1, 1, 1, 1).calls("set(1, 3, 2)", "set(2, 3, 3)")
                .due("far(0, 3)", 6).due("far(3, 1)", 5);
        line(doc.says(22, "who must have miscounted by told strokes;"), 7, 7).calls("order(0)").row(0, 0, "2", "2")
                .due("miscounted(0, 9, 0)", 1).due("miscounted(0, 9, 1)", 0);
    }

    private static void whatElse(Document doc) {
        doc.says(26, "laws in texts,").law("fine 6*7").due("fine()", 42);
        Run dealt = doc.says(8, "lines by lot;").calls("seed(7)").due("deal(3)", 3);
        for (int k = 0; k < 3; k++) {
            dealt.due("told(" + k + ", 0)", (drawn(7, 2 * k + 1) >>> 8) % 6)
                    .due("told(" + k + ", 1)", 1 + (drawn(7, 2 * k + 2) >>> 8) % 9);
        }
        Run checked = line(doc.says(39, "all told in rows that can be checked,"), 1, 2, 3, 4)
                .calls("order(0)", "keep()");
        int[] counts = {4, 9, 16, 20, 24, 28, 32, 36};
        for (int k = 0; k < 8; k++) {
            checked.calls("tell(" + (k == 7 ? 4 : 0) + ")", "tell(" + counts[k] + ")");
        }
        checked.due("check(8)", 0);
        line(doc.says(41, "kept and gone on from."), 1, 2, 3, 4).calls("order(0)", "keep()").due("beats(8)", 4)
                .due("back()", 4).due("beats(7)", 0).due("beats(1)", 4);
    }

    // ---- 512 calls

    private static void calls512(Document doc) {
        Run strokes = doc.says(12, "An object is used for at most 512 calls after it has been made;")
                .calls("drummer(0, 9)").law("hear 1").times(506, "beats(1)");
        strokes.due("told(0, 5)", 253).isAtCall(512);
        Run texts = doc.also(26).calls("keep()");
        for (int round = 0; round < 8; round++) {
            for (int k = 0; k < 14; k++) {
                texts.tape("fine " + k).due("text()", k);
            }
            texts.tape("fine 99").due("text()", FULL).due("back()", 0);
        }
        texts.times(17, "back()").law("fine 7").due("fine()", 7).due("count(6)", 1).isAtCall(512);
        Run rows = doc.also(38).calls("keep()");
        for (int round = 0; round < 8; round++) {
            rows.times(60, "tell(0)").due("tell(0)", FULL).due("check(30)", 0);
        }
        rows.times(14, "tell(0)").due("check(7)", 0).isAtCall(512);
        Run rest = doc.also(37);
        for (int k = 0; k < 256; k++) {
            rest.calls("lay(" + k % 5 + ", 3, " + k + ")").due("rest(" + k % 5 + ", 1000)", k);
        }
        rest.isAtCall(512);
        doc.comes("what later calls answer is free.");
    }

    // ---- The public face

    /** The class's text has each row of the face, in the document's order, and nothing else that is public. */
    private static void face(Document doc) {
        String flat = main.replaceAll("\\s+", " ");
        int place = 0;
        int rows = 0;
        while (!doc.isBehindFence()) {
            String row = doc.line();
            if (!row.equals("}")) {
                String written = row.startsWith("public int") || row.equals("public OneStroke();")
                        ? row.replace(";", " {") : row;
                int found = flat.indexOf(written, place);
                Due.due("Promise 1, the class has, in its place: " + row, found >= 0);
                place = Math.max(place, found);
                rows++;
            }
        }
        Due.due("Promise 1, rows of the face", rows, 44);
        Due.due("Promise 1, all that is public", found(main, "\\bpublic\\b").size(), rows);
    }

    private static List<String> found(String text, String pattern) {
        List<String> all = new ArrayList<>();
        Matcher each = Pattern.compile(pattern).matcher(text);
        while (each.find()) {
            all.add(each.group(each.groupCount()));
        }
        return all;
    }

    private static void theInterfaceSays(Document doc) {
        says(doc, 2, "Ahead of the calls `drummer`, `told`, `as`, `turns`, `set`, `miss`, `deal`, `seed` the"
                + " interface says: ---- the line.");
        says(doc, 10, "Ahead of the calls `order`, `hush`, `beats`, `behind`, `soon`, `all`, `spread`, `toWhom`,"
                + " `mend` the interface says: ---- beats.");
        says(doc, 19, "Ahead of the calls `far`, `reach`, `edge`, `miscounted`, `fine` the interface says: ----"
                + " sounds.");
        says(doc, 24, "Ahead of the calls `feed`, `trim`, `text`, `textTold`, `why` the interface says: ---- texts.");
        says(doc, 29, "Ahead of the calls `sheet`, `mark`, `pour`, `reads`, `copy`, `lay`, `ask`, `item`, `rest` the"
                + " interface says: ---- sheets, slots.");
        says(doc, 38, "Ahead of the calls `tell`, `check`, `keep`, `back`, `count` the interface says: ---- rows,"
                + " images.");
    }

    private static void says(Document doc, int promise, String words) {
        doc.comes(words);
        String line = words.substring(words.indexOf("---- "), words.length() - 1);
        int from = main.indexOf("// " + line + "\n");
        int to = main.indexOf("// ----", from + 1);
        Due.due("Promise " + promise + ", the class says: " + line, from >= 0 && to > from);
        String part = main.substring(Math.max(from, 0), Math.max(from, to));
        Due.due("Promise " + promise + ", calls behind " + line,
                found(part, "public int (\\w+)\\(").equals(found(words, "`(\\w+)`")));
    }

    // ---- Not promised

    private static void notPromised(Document doc) {
        doc.comes("How the state is held inside the object is free, as are the speed of each call, the text of"
                + " toString and the behaviour of equals and hashCode.");
        doc.comes("Use of one object from several threads at once is not promised to be safe.");
        doc.comes("Nothing is promised beyond the answers and state changes described above, and nothing about an"
                + " object after its 512th call.");
    }
}
