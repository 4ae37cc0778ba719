import java.lang.reflect.InvocationTargetException;
import java.lang.reflect.Method;
import java.util.ArrayList;
import java.util.List;
import java.util.Random;

/** Runs of calls by lot (the same ones each time), each answered by the class and by the model of it alike. */
public final class ModelTest {
    private static final int RUNS = 200, CALLS = 512;

    private final Random lot;
    private final OneStroke x = new OneStroke();
    private final Model model = new Model();
    private final List<String> calls = new ArrayList<>();
    private boolean wrong;

    private ModelTest(long seed) {
        lot = new Random(seed);
    }

    public static void main(String[] args) throws Exception {
        int runs = args.length > 0 ? Integer.parseInt(args[0]) : RUNS;
        Method[] methods = OneStroke.class.getDeclaredMethods();
        List<Method> face = new ArrayList<>();
        for (Method one : methods) {
            if (java.lang.reflect.Modifier.isPublic(one.getModifiers())) {
                face.add(one);
            }
        }
        face.sort((one, other) -> one.getName().compareTo(other.getName()));
        Due.due("calls of the face", face.size(), 41);
        for (int run = 0; run < runs; run++) {
            new ModelTest(run).run(run, face);
        }
        Due.end("ModelTest");
    }

    private void run(int run, List<Method> face) throws Exception {
        if (run % 3 != 0) {
            call(named(face, "deal"), 1 + lot.nextInt(10));
        }
        if (run % 20 == 7) {
            nearTheLastBeat(face);
        }
        while (calls.size() < CALLS && !wrong) {
            int turn = lot.nextInt(100);
            if (turn < 8) {
                aText(face);
            } else if (turn < 11) {
                toldRows(face);
            } else if (turn < 15) {
                aSheetAsItComes(face);
            } else {
                Method one = face.get(lot.nextInt(face.size()));
                int[] a = new int[one.getParameterCount()];
                for (int k = 0; k < a.length; k++) {
                    a[k] = aNumber(one.getName(), k);
                }
                call(one, a);
            }
        }
    }

    private static Method named(List<Method> face, String name) {
        return face.stream().filter(one -> one.getName().equals(name)).findFirst().orElseThrow();
    }

    private void call(Method one, int... a) throws Exception {
        if (wrong) {
            return;
        }
        Object[] boxed = new Object[a.length];
        StringBuilder told = new StringBuilder(one.getName()).append('(');
        for (int k = 0; k < a.length; k++) {
            boxed[k] = a[k];
            told.append(k == 0 ? "" : ", ").append(a[k]);
        }
        calls.add(told.append(')').toString());
        int want = model.call(one.getName(), a);
        try {
            int got = (Integer) one.invoke(x, boxed);
            wrong = got != want;
            Due.due(wrong ? String.join("; ", calls) : "", got, want);
        } catch (InvocationTargetException thrown) {
            wrong = true;
            Due.due(String.join("; ", calls) + " threw " + thrown.getCause(), false);
        }
    }

    /** Mostly what the call can take, at times its edges and what lies far off. */
    private int aNumber(String name, int place) {
        int turn = lot.nextInt(100);
        if (turn < 2) {
            int[] far = {Integer.MIN_VALUE, Integer.MAX_VALUE, OneStroke.NONE, -1, 65536, 100000, -100000, 99999, 32768};
            return far[lot.nextInt(far.length)];
        }
        if (turn < 6) {
            return lot.nextInt(130) - 10;
        }
        switch (name + place) {
            case "drummer0": case "as1": case "turns1": case "ask1": return lot.nextInt(6);
            case "drummer1": case "pour0": case "deal0": return 1 + lot.nextInt(4);
            case "told1": return lot.nextInt(12);
            case "set1": return 1 + lot.nextInt(3);
            case "set2": return lot.nextInt(10);
            case "miss0": return lot.nextInt(3) == 0 ? lot.nextInt(101) : lot.nextInt(10);
            case "seed0": case "tell0": case "lay2": return lot.nextInt(4) == 0 ? lot.nextInt() : lot.nextInt(4);
            case "beats0": return 1 + lot.nextInt(lot.nextInt(4) == 0 ? 100 : 9);
            case "behind1": case "spread0": case "toWhom0": case "miscounted1": case "trim0": return 1 + lot.nextInt(61);
            case "mend0": return 1 + lot.nextInt(40);
            case "mend1": case "behind2": case "why0": return lot.nextInt(3);
            case "miscounted2": case "textTold1": return lot.nextInt(2);
            case "reach1": case "check0": return lot.nextInt(31);
            case "sheet1": return lot.nextInt(5) == 0 ? -1 : lot.nextInt(2);
            case "sheet2": return lot.nextInt(25);
            case "mark1": case "item1": return lot.nextInt(13);
            case "copy1": case "copy3": case "copy4": return lot.nextInt(6);
            case "mark2": return lot.nextInt(5) == 0 ? OneStroke.NONE : lot.nextInt(25) - 4;
            case "copy0": case "copy2": case "sheet0": case "mark0": case "reads0": case "miscounted0":
                return lot.nextInt(4);
            case "lay0": case "ask0": case "item0": case "rest0": return lot.nextInt(5);
            case "lay1": return lot.nextInt(4);
            case "count0": return lot.nextInt(10);
            default: return lot.nextInt(lot.nextInt(3) == 0 ? 10 : 4);
        }
    }

    private void nearTheLastBeat(List<Method> face) throws Exception {
        call(named(face, "deal"), 1 + lot.nextInt(3));
        for (int k = 0; k < 100; k++) {
            call(named(face, "beats"), k == 99 ? 60 + lot.nextInt(40) : 100);
        }
    }

    private void aText(List<Method> face) throws Exception {
        String key = new String[] {"hear", "start", "fine"}[lot.nextInt(3)];
        String names = key.equals("hear") ? "lrn" : key.equals("start") ? "snb" : "mb";
        StringBuilder signs = new StringBuilder(blanks()).append(key).append(' ');
        expression(signs, names, lot.nextInt(12) == 0 ? 9 : lot.nextInt(4));
        signs.append(blanks());
        while (lot.nextInt(4) == 0 && signs.length() > 0) {
            spoil(signs);
        }
        if (signs.length() > 96) {
            signs.setLength(96);
        }
        call(named(face, "trim"), 0);
        for (int k = 0; k < signs.length(); k += 12) {
            call(named(face, "feed"), word(signs, k), word(signs, k + 4), word(signs, k + 8));
        }
        call(named(face, "trim"), signs.length());
        call(named(face, "text"));
    }

    private static int word(CharSequence signs, int from) {
        int word = 0;
        for (int k = from; k < from + 4; k++) {
            word = word << 8 | (k < signs.length() ? signs.charAt(k) & 255 : 32);
        }
        return word;
    }

    private String blanks() {
        return " ".repeat(lot.nextInt(8) == 0 ? lot.nextInt(3) : 0);
    }

    private void spoil(StringBuilder signs) {
        int at = lot.nextInt(signs.length());
        String any = "()!!((<=>|&+-*/ 0123456789lrnsbmx~\u00e9\u0000";
        char sign = any.charAt(lot.nextInt(any.length()));
        int turn = lot.nextInt(3);
        if (turn == 0) {
            signs.deleteCharAt(at);
        } else if (turn == 1) {
            signs.setCharAt(at, sign);
        } else {
            signs.insert(at, sign);
        }
    }

    private void expression(StringBuilder signs, String names, int depth) {
        int parts = 1 + lot.nextInt(depth > 4 ? 1 : 3);
        for (int k = 0; k < parts; k++) {
            if (k > 0) {
                signs.append(blanks()).append("|&<=>+-*/".charAt(lot.nextInt(9))).append(blanks());
            }
            int turn = lot.nextInt(10);
            if (depth > 0 && (turn < 4 || depth > 4 && turn < 9)) {
                signs.append(lot.nextInt(2) == 0 ? "" : "!").append('(').append(blanks());
                expression(signs, names, depth - 1);
                signs.append(blanks()).append(')');
            } else if (depth > 0 && turn < 6) {
                signs.append("!".repeat(lot.nextInt(10) == 0 ? 9 : lot.nextInt(4)));
                expression(signs, names, 0);
            } else if (turn < 8) {
                signs.append(names.charAt(lot.nextInt(names.length())));
            } else {
                signs.append(lot.nextInt(20) == 0 ? lot.nextInt(20000) : lot.nextInt(12));
            }
        }
    }

    /** Numbers that are due, or nearly, and a check of them. */
    private void toldRows(List<Method> face) throws Exception {
        if (lot.nextBoolean()) {
            call(named(face, "keep"));
        }
        call(named(face, "check"), 1 + lot.nextInt(3));
        int n = 1 + lot.nextInt(lot.nextInt(5) == 0 ? 30 : 6);
        List<Integer> due = model.due(n);
        if (lot.nextInt(4) == 0 && !due.isEmpty()) {
            due.remove(due.size() - 1);
        }
        if (lot.nextInt(4) == 0) {
            due.add(0);
        }
        if (lot.nextInt(3) == 0 && !due.isEmpty()) {
            int at = lot.nextInt(due.size());
            due.set(at, due.get(at) + 1);
        }
        for (int v : due) {
            call(named(face, "tell"), v);
        }
        call(named(face, "check"), n);
    }

    /** A SHEET with COUNTS as they come, so that reads goes farther than its first place. */
    private void aSheetAsItComes(List<Method> face) throws Exception {
        int sheet = lot.nextInt(4);
        int size = lot.nextInt(10);
        int drummer = lot.nextInt(4);
        call(named(face, "sheet"), sheet, lot.nextInt(2), size);
        for (int k = 0; k < size; k++) {
            int count = model.call("behind", drummer, k, 0);
            call(named(face, "mark"), sheet, k, lot.nextInt(12) == 0 ? OneStroke.NONE : Math.max(count, 0));
        }
        call(named(face, "reads"), sheet, drummer);
    }
}
