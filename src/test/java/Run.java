import java.lang.reflect.InvocationTargetException;
import java.lang.reflect.Method;
import java.lang.reflect.Modifier;
import java.nio.charset.StandardCharsets;
import java.nio.file.Files;
import java.nio.file.Path;
import java.util.ArrayList;
import java.util.HashMap;
import java.util.List;
import java.util.Map;
import java.util.TreeSet;

/**
 * A run of calls on a new object, under a promise and the words of the document that it tests. Calls are written as texts,
 * so that a run can be played again and what two objects tell can be put side by side.
 */
final class Run {
    private static final int MOST_CALLS = 512;
    private static final Path DOCUMENT = Path.of("..", "shared", "DOC.md");
    private static final Map<String, Method> FACE = face();
    private static final Map<String, Integer> NAMES = Map.of("MIN", Integer.MIN_VALUE, "MAX", Integer.MAX_VALUE,
            "NONE", OneStroke.NONE, "BAD", OneStroke.BAD);
    private static final List<Integer> REFUSALS = List.of(OneStroke.BAD, OneStroke.NO, OneStroke.FULL, OneStroke.NOTHING,
            OneStroke.KIND, OneStroke.INDEX, OneStroke.SIZE);
    private static final TreeSet<Integer> TESTED = new TreeSet<>();
    private static String document;

    private final String name;
    private final List<String> made = new ArrayList<>();
    private final OneStroke object = new OneStroke();

    private Run(String itsName) {
        name = itsName;
    }

    static Run of(int promise, String words) {
        Due.due("the document says \"" + words + "\"", document().contains(words));
        TESTED.add(promise);
        return new Run("Promise " + promise + ", \"" + words + "\": ");
    }

    /** An object in which everything there is is something, so that a call that changes more than it may is seen. */
    static Run rich(int promise, String words) {
        Run run = of(promise, words).calls("drummer(1, 4)", "drummer(2, 6)", "drummer(5, 2)", "set(0, 3, 2)",
                "set(1, 3, 3)", "miss(20)", "seed(77)").law("hear l+r>0").law("start s")
                        .calls("order(0)", "beats(3)", "keep()");
        OneStroke ahead = played(run.made);
        run.calls("drummer(4, 7)", "beats(4)", "miss(30)", "set(2, 1, 9)").law("fine m*3+b");
        run.row(0, 0, "5", "-6", "7").row(1, 1, "8", "NONE", "-9", "99999").calls("sheet(2, 0, 0)");
        run.calls("lay(1, 1, 1)", "lay(2, 2, 1)", "lay(3, 3, -17)", "lay(4, 2, 0)").tape("start s+n");
        for (int k = 0; k < 3; k++) {
            run.calls("tell(" + ahead.beats(1) + ")", "tell(" + ahead.count(5) + ")");
        }
        return run;
    }

    /** Ends a test; each of its promises must have been tested. */
    static void end(String test, int first, int last) {
        for (int k = first; k <= last; k++) {
            Due.due("promise " + k + " is tested", TESTED.contains(k));
        }
        Due.end(test);
    }

    // ---- calls

    /** The call's answer is due. */
    Run due(String call, int want) {
        Due.due(name + call, make(call), want);
        return this;
    }

    /** The call's answer is due, and the call changes nothing. */
    Run stays(String call, int want) {
        return changesNothing(call).due(call, want);
    }

    /** The call would change nothing; it is not made here. */
    Run changesNothing(String call) {
        List<String> with = new ArrayList<>(made);
        with.add(call);
        alike(call + " changes nothing", made, with);
        return this;
    }

    /** As stays, but THE TAPE is used up. */
    Run usesTape(String call, int want) {
        List<String> without = new ArrayList<>(made);
        without.add("trim(0)");
        List<String> with = new ArrayList<>(made);
        with.add(call);
        alike(call + " changes THE TAPE alone", without, with);
        return due(call, want).due("count(8)", 0);
    }

    /** As stays, but the numbers that wait do so no more. */
    Run usesNumbers(String call, int want) {
        List<String> without = new ArrayList<>(made);
        without.removeIf(one -> one.startsWith("tell("));
        List<String> with = new ArrayList<>(made);
        with.add(call);
        alike(call + " changes the numbers that wait alone", without, with);
        return due(call, want).due("count(7)", 0);
    }

    /** Whether the call would be refused; if so, it may change only what the document says. It is not made here. */
    boolean refuses(String call) {
        if (!REFUSALS.contains(answer(played(made), call))) {
            return false;
        }
        List<String> without = new ArrayList<>(made);
        if (call.startsWith("text(")) {
            without.add("trim(0)");
        } else if (call.startsWith("check(")) {
            without.removeIf(one -> one.startsWith("tell("));
        }
        List<String> with = new ArrayList<>(made);
        with.add(call);
        alike(call + " changes nothing more", without, with);
        return true;
    }

    /** Calls that lead to what is tested; none may be refused. */
    Run calls(String... calls) {
        for (String call : calls) {
            int answer = make(call);
            Due.due(name + call + " is taken, not " + answer, answer > OneStroke.BAD || call.startsWith("seed"));
        }
        return this;
    }

    Run times(int n, String call) {
        for (int k = 0; k < n; k++) {
            calls(call);
        }
        return this;
    }

    /** THE TAPE becomes these signs. */
    Run tape(String signs) {
        calls("trim(0)");
        for (int k = 0; k < signs.length(); k += 12) {
            calls("feed(" + Tapes.word(signs, k) + ", " + Tapes.word(signs, k + 4) + ", " + Tapes.word(signs, k + 8) + ")");
        }
        return calls("trim(" + signs.length() + ")");
    }

    /** One more TEXT. */
    Run law(String signs) {
        tape(signs);
        int answer = make("text()");
        Due.due(name + signs + " is a TEXT, not " + answer, answer >= 0);
        return this;
    }

    /** A SHEET becomes a row of these places. */
    Run row(int sheet, int sort, String... places) {
        calls("sheet(" + sheet + ", " + sort + ", " + places.length + ")");
        for (int k = 0; k < places.length; k++) {
            calls("mark(" + sheet + ", " + k + ", " + places[k] + ")");
        }
        return this;
    }

    /** The places of a SHEET, told through SLOT 0, are these, and no more. */
    Run places(int sheet, int... want) {
        calls("lay(0, 2, " + sheet + ")");
        for (int k = 0; k < want.length; k++) {
            due("item(0, " + k + ")", want[k]);
        }
        return due("item(0, " + want.length + ")", OneStroke.INDEX);
    }

    /** told of the DRUMMERS from 0 on is this. */
    Run each(int what, int... want) {
        for (int k = 0; k < want.length; k++) {
            due("told(" + k + ", " + what + ")", want[k]);
        }
        return this;
    }

    /** THE BEAT comes to this one, which lies ahead. */
    Run toBeat(int beat) {
        int left = beat - answer(object, "count(1)");
        for (int k = left; k > 0; k -= 100) {
            calls("beats(" + Math.min(k, 100) + ")");
        }
        return due("count(1)", beat);
    }

    /** So many calls were made. */
    Run isAtCall(int number) {
        Due.due(name + "calls made", made.size(), number);
        return this;
    }

    private int make(String call) {
        made.add(call);
        Due.due(name + "no more than " + MOST_CALLS + " calls", made.size() <= MOST_CALLS);
        return answer(object, call);
    }

    // ---- what two objects tell

    private void alike(String what, List<String> one, List<String> other) {
        List<String> told = new Told(one).everything();
        List<String> otherTold = new Told(other).everything();
        int k = 0;
        while (k < told.size() && k < otherTold.size() && told.get(k).equals(otherTold.get(k))) {
            k++;
        }
        boolean same = k == told.size() && k == otherTold.size();
        Due.due(name + what + (same ? "" : ", but then " + otherTold.subList(k, otherTold.size())), same);
        Due.due(name + "no more than " + MOST_CALLS + " calls", other.size() + otherTold.size() <= MOST_CALLS);
    }

    private static OneStroke played(List<String> calls) {
        OneStroke x = new OneStroke();
        for (String call : calls) {
            answer(x, call);
        }
        return x;
    }

    /** Everything that an object tells of itself behind some calls; as some is told only by changes, it is told once. */
    private static final class Told {
        private final OneStroke x;
        private final List<String> rows = new ArrayList<>();

        Told(List<String> calls) {
            x = played(calls);
        }

        List<String> everything() {
            line();
            for (int slot = 0; slot < 5; slot++) {
                inSlot(slot);
            }
            for (int sheet = 0; sheet < 4; sheet++) {
                ask("lay(0, 0, 0)");
                ask("lay(0, 2, " + sheet + ")");
                inSlot(0);
            }
            int waits = ask("count(7)");
            ask("text()");
            ask("fine()");
            ask("told(0, 8)");
            ask("told(0, 9)");
            ask("check(" + Math.max(1, (waits + 1) / 2) + ")");
            ask("back()");
            line();
            return rows;
        }

        private void line() {
            int size = 0;
            for (int what = 9; what >= 0; what--) {
                size = ask("count(" + what + ")");
            }
            for (int k = 0; k < size; k++) {
                for (int what = 0; what < 12; what++) {
                    ask("told(" + k + ", " + what + ")");
                }
            }
            for (int key = 0; key < 3; key++) {
                int text = ask("why(" + key + ")");
                ask("textTold(" + text + ", 1)");
            }
            ask("fine()");
        }

        private void inSlot(int slot) {
            boolean noNumber = ask("rest(" + slot + ", MAX)") == OneStroke.KIND;
            boolean noDrummer = ask("ask(" + slot + ", 0)") == OneStroke.KIND;
            ask("ask(" + slot + ", 1)");
            ask("ask(" + slot + ", 2)");
            boolean more = noNumber && noDrummer;
            for (int place = 0; more && place < 24; place++) {
                more = ask("item(" + slot + ", " + place + ")") != OneStroke.INDEX;
            }
        }

        private int ask(String call) {
            int answer = answer(x, call);
            rows.add(call + " = " + answer);
            return answer;
        }
    }

    // ---- calls as texts

    private static Map<String, Method> face() {
        Map<String, Method> found = new HashMap<>();
        for (Method one : OneStroke.class.getDeclaredMethods()) {
            if (Modifier.isPublic(one.getModifiers())) {
                found.put(one.getName(), one);
            }
        }
        return found;
    }

    private static int answer(OneStroke x, String call) {
        int open = call.indexOf('(');
        String inner = call.substring(open + 1, call.length() - 1);
        String[] parts = inner.isEmpty() ? new String[0] : inner.split(", ");
        Object[] numbers = new Object[parts.length];
        for (int k = 0; k < parts.length; k++) {
            numbers[k] = NAMES.containsKey(parts[k]) ? NAMES.get(parts[k]) : Integer.valueOf(parts[k]);
        }
        try {
            return (Integer) FACE.get(call.substring(0, open)).invoke(x, numbers);
        } catch (InvocationTargetException thrown) {
            throw new IllegalStateException(call + " threw", thrown.getCause());
        } catch (IllegalAccessException hidden) {
            throw new IllegalStateException(call, hidden);
        }
    }

    private static String document() {
        try {
            if (document == null) {
                document = Files.readString(DOCUMENT, StandardCharsets.UTF_8);
            }
            return document;
        } catch (java.io.IOException gone) {
            throw new IllegalStateException("the document cannot be read", gone);
        }
    }
}
