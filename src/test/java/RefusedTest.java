import java.util.ArrayList;
import java.util.List;

/** A refused call changes nothing: each call with numbers from all sides, on a new, a rich and a full object. */
public final class RefusedTest {
    private static final String WORDS = "A call that is refused answers one of BAD, NO, FULL, or a FINDING, of several the"
            + " one that stands first with it, and changes nothing (but the tape and the numbers that wait, where told).";
    /** The calls of promises 2 to 42, in their order, with how many numbers each takes. */
    private static final String CALLS = "drummer2 told2 as2 turns2 set3 miss1 deal1 seed1 order1 hush0 beats1 behind3 soon0"
            + " all0 spread1 toWhom1 mend2 far2 reach2 edge1 miscounted3 fine0 feed3 trim1 text0 textTold2 why1 sheet3 mark3"
            + " pour1 reads2 copy5 lay3 ask2 item2 rest2 tell1 check1 keep0 back0 count1";
    /** Those that no object ever refuses. */
    private static final String TAKEN = " seed hush soon all fine keep ";
    private static final String[] MANY = {"MIN", "-1", "0", "1", "3", "9", "24", "99", "NONE", "MAX"};
    private static final String[] SOME = {"-1", "0", "2", "4", "25", "NONE"};
    private static final String[] FEW = {"-1", "0", "3", "4"};

    public static void main(String[] args) {
        String[] calls = CALLS.split(" ");
        for (int k = 0; k < calls.length; k++) {
            String name = calls[k].substring(0, calls[k].length() - 1);
            int takes = calls[k].charAt(calls[k].length() - 1) - '0';
            each(k + 2, name, all(name, takes));
        }
        Run.end("RefusedTest", 2, 42);
    }

    private static void each(int promise, String name, List<String> calls) {
        int refused = 0;
        for (Run run : new Run[] {Run.of(promise, WORDS), Run.rich(promise, WORDS), full(promise)}) {
            for (String call : calls) {
                refused += run.refuses(call) ? 1 : 0;
            }
        }
        boolean never = TAKEN.contains(" " + name + " ");
        Due.due("Promise " + promise + ": " + name + " was refused at times", never == (refused == 0));
    }

    /** All places are taken: DRUMMERS, TEXTS, bytes, numbers that wait, SLOTS; AN IMAGE without DRUMMERS is kept. */
    private static Run full(int promise) {
        Run run = Run.of(promise, WORDS).calls("keep()").times(9, "drummer(1, 3)").calls("drummer(4, 8)", "set(9, 2, 7)");
        for (int k = 0; k < 14; k++) {
            run.law("fine " + k);
        }
        run.row(0, 0, "1", "2").row(1, 1, "NONE", "3").row(2, 0, "4").row(3, 1, "5");
        run.calls("lay(0, 1, 9)", "lay(1, 2, 0)", "lay(2, 3, 8)", "lay(3, 2, 1)", "lay(4, 1, 0)");
        return run.tape("fine 9" + " ".repeat(90)).times(60, "tell(0)");
    }

    private static List<String> all(String name, int takes) {
        String[] numbers = takes < 3 ? MANY : takes == 3 ? SOME : FEW;
        List<String> found = new ArrayList<>(List.of(""));
        for (int k = 0; k < takes; k++) {
            List<String> longer = new ArrayList<>();
            for (String one : found) {
                for (String number : numbers) {
                    longer.add(one.isEmpty() ? number : one + ", " + number);
                }
            }
            found = longer;
        }
        found.replaceAll(inner -> name + "(" + inner + ")");
        return found;
    }
}
