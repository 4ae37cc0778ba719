import java.util.ArrayList;
import java.util.Arrays;
import java.util.List;
import java.util.function.ToIntFunction;

/**
 * The document once more, written for plainness alone and on other ways than the class: worlds are copied whole, a TEXT
 * is judged token by token by what may follow, and worked out by cutting it at its loosest sign.
 */
final class Model {
    private static final int BAD = OneStroke.BAD, NO = OneStroke.NO, FULL = OneStroke.FULL, NONE = OneStroke.NONE,
            NOTHING = OneStroke.NOTHING, KIND = OneStroke.KIND, INDEX = OneStroke.INDEX, SIZE = OneStroke.SIZE;

    private World now = new World();
    private World image;
    private String tape = "";
    private final List<Integer> waiting = new ArrayList<>();
    private final Row[] sheets = new Row[4];
    private final Object[] slots = new Object[5];

    // ---- worlds

    private static final class One {
        int kind, start, strokes, apart = 1;
        int[] counts = new int[3];
        Integer first;

        One copy() {
            One made = new One();
            made.kind = kind;
            made.start = start;
            made.strokes = strokes;
            made.apart = apart;
            made.counts = counts.clone();
            made.first = first;
            return made;
        }

        boolean is(int wanted) {
            List<List<Integer>> all = List.of(List.of(0), List.of(0, 1), List.of(0, 2), List.of(0, 1, 3),
                    List.of(0, 2, 4), List.of(0, 5));
            return all.get(kind).contains(wanted);
        }

        int worth() {
            return new int[] {start, start + 4, 20 - start, (start + 4) * 2, 15 - start, 6}[kind];
        }
    }

    private static final class World {
        List<One> ones = new ArrayList<>();
        List<Law> laws = new ArrayList<>();
        int beat, miss, z = 1;

        World copy() {
            World made = new World();
            ones.forEach(one -> made.ones.add(one.copy()));
            made.laws.addAll(laws);
            made.beat = beat;
            made.miss = miss;
            made.z = z;
            return made;
        }

        int why(int key) {
            for (int k = laws.size() - 1; k >= 0; k--) {
                if (laws.get(k).key == key) {
                    return k;
                }
            }
            return NONE;
        }

        int draw() {
            z = (int) (z * 1103515245L + 12345L);
            return z >>> 8;
        }

        int sound(int hearer, int other) {
            if (other < 0 || other >= ones.size()) {
                return 0;
            }
            return ones.get(other).counts[ones.get(Math.min(hearer, other)).apart - 1];
        }

        boolean hears(int k) {
            int l = sound(k, k - 1);
            int r = sound(k, k + 1);
            if (ones.get(k).kind == 5) {
                return l > 0;
            }
            int law = why(0);
            return law == NONE ? l + r > 0 : laws.get(law).gives("lrn", l, r, k) != 0;
        }

        int wakes(int k) {
            One one = ones.get(k);
            int law = why(1);
            int start = law == NONE ? one.start : laws.get(law).gives("snb", one.start, k, beat);
            start = start < 1 ? 1 : start > 9 ? 9 : start;
            if (one.is(2)) {
                start = start == 9 ? 9 : start + 1;
            }
            if (one.is(3)) {
                start = start == 1 ? 1 : start - 1;
            }
            return start;
        }

        int step(int k) {
            One one = ones.get(k);
            int count = one.counts[0];
            if (count == 0 || one.is(1) && beat % 4 == 3) {
                return count;
            }
            return count == 9 || count == 8 && one.is(4) ? 0 : count + 1;
        }

        /** Those who strike in one BEAT. */
        List<Integer> beat() {
            boolean[] hear = new boolean[ones.size()];
            int[] next = new int[ones.size()];
            for (int k = 0; k < ones.size(); k++) {
                hear[k] = hears(k);
            }
            for (int k = 0; k < ones.size(); k++) {
                int count = ones.get(k).counts[0];
                if (count == 0) {
                    next[k] = hear[k] ? wakes(k) : 0;
                } else {
                    next[k] = draw() % 100 < miss ? count : step(k);
                }
            }
            beat++;
            List<Integer> strike = new ArrayList<>();
            for (int k = 0; k < ones.size(); k++) {
                One one = ones.get(k);
                one.counts = new int[] {next[k], one.counts[0], one.counts[1]};
                if (one.counts[0] == 9 && one.counts[1] != 9) {
                    strike.add(k);
                    one.strokes++;
                    if (one.first == null) {
                        one.first = beat;
                    }
                }
            }
            return strike;
        }

        List<List<Integer>> beats(int n) {
            List<List<Integer>> all = new ArrayList<>();
            for (int k = 0; k < n; k++) {
                all.add(beat());
            }
            return all;
        }

        int sum(ToIntFunction<One> of) {
            return ones.stream().mapToInt(of).sum();
        }
    }

    /** The first BEAT (from 1) in which k strikes; 0 without one. */
    private static int first(List<List<Integer>> beats, int k) {
        for (int n = 0; n < beats.size(); n++) {
            if (beats.get(n).contains(k)) {
                return n + 1;
            }
        }
        return 0;
    }

    private static int spread(World world, int n) {
        List<List<Integer>> beats = world.copy().beats(n);
        int[] firsts = new int[world.ones.size()];
        for (int k = 0; k < firsts.length; k++) {
            firsts[k] = first(beats, k);
        }
        Arrays.sort(firsts);
        return firsts.length == 0 || firsts[0] == 0 ? NONE : firsts[firsts.length - 1] - firsts[0];
    }

    private static int most(World world, int n) {
        return world.copy().beats(n).stream().mapToInt(List::size).max().orElse(0);
    }

    // ---- TEXTS

    private static final class Law {
        final int key;
        final List<String> tokens;

        Law(int itsKey, List<String> itsTokens) {
            key = itsKey;
            tokens = itsTokens;
        }

        int gives(String names, int... values) {
            return work(tokens, names, values);
        }

        int pieces() {
            return (int) tokens.stream().filter(token -> Character.isLetterOrDigit(token.charAt(0))).count();
        }

        /** Cuts at the last of the loosest signs that stand outside all brackets. */
        private static int work(List<String> part, String names, int[] values) {
            for (String signs : new String[] {"|", "&", "<=>", "+-", "*/"}) {
                int open = 0;
                for (int k = part.size() - 1; k > 0; k--) {
                    String token = part.get(k);
                    open += token.equals(")") ? 1 : token.equals("(") ? -1 : 0;
                    if (open == 0 && signs.contains(token)) {
                        return join(token.charAt(0), work(part.subList(0, k), names, values),
                                work(part.subList(k + 1, part.size()), names, values));
                    }
                }
            }
            String head = part.get(0);
            if (head.equals("!")) {
                return work(part.subList(1, part.size()), names, values) == 0 ? 1 : 0;
            }
            if (head.equals("(")) {
                return work(part.subList(1, part.size() - 1), names, values);
            }
            return Character.isDigit(head.charAt(0)) ? Integer.parseInt(head) : values[names.indexOf(head)];
        }

        private static int join(char sign, int a, int b) {
            if ("|&<=>".indexOf(sign) >= 0) {
                boolean so = sign == '|' ? a != 0 || b != 0 : sign == '&' ? a != 0 && b != 0
                        : sign == '<' ? a < b : sign == '>' ? a > b : a == b;
                return so ? 1 : 0;
            }
            if (sign == '/') {
                return b == 0 ? 0 : (int) ((long) a / b);
            }
            return (int) (sign == '+' ? (long) a + b : sign == '-' ? (long) a - b : (long) a * b);
        }
    }

    private static boolean isWord(String token) {
        return token.matches("[a-z]+|[0-9]+");
    }

    /** Where a TEXT is read: the FAULT, or -1; its KEY and tokens are put where they are asked for. */
    private static int fault(String tape, int[] key, List<String> tokens) {
        java.util.regex.Matcher all = java.util.regex.Pattern.compile("[a-z]+|[0-9]+|[^ ]", java.util.regex.Pattern.DOTALL)
                .matcher(tape);
        int behind = -1;
        boolean pieceIsDue = true;
        // For each open bracket: how many nots were open ahead of it, and whether its test was made.
        List<int[]> open = new ArrayList<>(List.of(new int[] {0, 0}));
        int nots = 0;
        for (int number = 0; all.find(); number++) {
            String token = all.group();
            int at = all.start();
            if (isWord(token) && behind == at) {
                return at;
            }
            behind = isWord(token) ? all.end() : -1;
            if (number == 0) {
                key[0] = List.of("hear", "start", "fine").indexOf(token);
                if (key[0] < 0) {
                    return at;
                }
                continue;
            }
            int[] inner = open.get(open.size() - 1);
            if (pieceIsDue) {
                String names = new String[] {"lrn", "snb", "mb"}[key[0]];
                if (token.equals("(") && open.size() <= 8) {
                    open.add(new int[] {nots, 0});
                } else if (token.equals("!") && nots < 8) {
                    nots++;
                } else if (token.matches("[0-9]{1,4}") || token.length() == 1 && names.contains(token)) {
                    pieceIsDue = false;
                    nots = inner[0];
                } else {
                    return at;
                }
            } else if (token.equals(")") && open.size() > 1) {
                open.remove(open.size() - 1);
                nots = open.get(open.size() - 1)[0];
            } else if ("<=>".contains(token) && inner[1] == 0) {
                inner[1] = 1;
                pieceIsDue = true;
            } else if ("|&".contains(token)) {
                inner[1] = 0;
                pieceIsDue = true;
            } else if ("+-*/".contains(token)) {
                pieceIsDue = true;
            } else {
                return at;
            }
            tokens.add(token);
        }
        return pieceIsDue || open.size() > 1 ? tape.length() : -1;
    }

    // ---- SHEETS

    private static final class Row {
        final int sort;
        final Integer[] places;

        Row(int itsSort, Integer[] itsPlaces) {
            sort = itsSort;
            places = itsPlaces;
        }

        boolean has(int k) {
            return k >= 0 && k < places.length;
        }
    }

    // ---- calls

    private boolean drummer(int k) {
        return k >= 0 && k < now.ones.size();
    }

    private static boolean in(int v, int least, int greatest) {
        return least <= v && v <= greatest;
    }

    int call(String name, int... a) {
        switch (name) {
            case "drummer": case "told": case "as": case "turns": case "set": case "miss": case "deal": case "seed":
                return line(name, a);
            case "order": case "hush": case "beats": case "behind": case "soon": case "all": case "spread": case "toWhom":
            case "mend":
                return beats(name, a);
            case "far": case "reach": case "edge": case "miscounted": case "fine":
                return sounds(name, a);
            case "feed": case "trim": case "text": case "textTold": case "why":
                return texts(name, a);
            case "sheet": case "mark": case "pour": case "reads": case "copy":
                return rows(name, a);
            case "lay": case "ask": case "item": case "rest":
                return slots(name, a);
            default:
                return images(name, a);
        }
    }

    private int line(String name, int[] a) {
        switch (name) {
            case "drummer":
                return !in(a[0], 0, 5) || !in(a[1], 1, 9) ? BAD : now.ones.size() == 10 ? FULL : join(a[0], a[1]);
            case "told":
                return drummer(a[0]) && in(a[1], 0, 11) ? told(a[0], a[1]) : BAD;
            case "as":
                return !drummer(a[0]) || !in(a[1], 0, 5) ? BAD : now.ones.get(a[0]).is(a[1]) ? now.ones.get(a[0]).start : KIND;
            case "turns": {
                if (!drummer(a[0]) || !in(a[1], 0, 5)) {
                    return BAD;
                }
                int was = now.ones.get(a[0]).kind;
                now.ones.get(a[0]).kind = a[1];
                return was;
            }
            case "set":
                return set(a[0], a[1], a[2]);
            case "miss": {
                if (!in(a[0], 0, 100)) {
                    return BAD;
                }
                int was = now.miss;
                now.miss = a[0];
                return was;
            }
            case "deal": {
                if (!in(a[0], 1, 10)) {
                    return BAD;
                }
                int came = 0;
                while (came < a[0] && now.ones.size() < 10) {
                    int kind = now.draw() % 6;
                    join(kind, 1 + now.draw() % 9);
                    came++;
                }
                return came;
            }
            default: {
                int was = now.z;
                now.z = a[0];
                return was;
            }
        }
    }

    private int join(int kind, int start) {
        One one = new One();
        one.kind = kind;
        one.start = start;
        now.ones.add(one);
        return now.ones.size() - 1;
    }

    private int told(int k, int what) {
        One one = now.ones.get(k);
        int[] all = {one.kind, one.start, one.counts[0], one.counts[1], one.counts[2], one.strokes,
            one.first == null ? NONE : one.first, one.apart, now.hears(k) ? 1 : 0, now.wakes(k), now.step(k), one.worth()};
        return all[what];
    }

    private int set(int k, int what, int v) {
        if (!drummer(k) || !in(what, 1, 3) || !in(v, what == 2 ? 0 : 1, what == 3 ? 3 : 9)) {
            return BAD;
        }
        One one = now.ones.get(k);
        int was = what == 1 ? one.start : what == 2 ? one.counts[0] : one.apart;
        if (what == 1) {
            one.start = v;
        } else if (what == 2) {
            one.counts[0] = v;
        } else {
            one.apart = v;
        }
        return was;
    }

    private int beats(String name, int[] a) {
        switch (name) {
            case "order":
                if (!drummer(a[0])) {
                    return BAD;
                }
                if (now.ones.get(a[0]).counts[0] > 0) {
                    return NO;
                }
                return now.ones.get(a[0]).counts[0] = now.wakes(a[0]);
            case "hush": {
                int had = now.sum(one -> one.counts[0] > 0 ? 1 : 0);
                now.ones.forEach(one -> one.counts = new int[3]);
                return had;
            }
            case "beats": {
                if (!in(a[0], 1, 100)) {
                    return BAD;
                }
                int strokes = 0;
                for (int k = 0; k < a[0] && now.beat < 9999; k++) {
                    strokes += now.beat().size();
                }
                return strokes;
            }
            case "behind": {
                if (!drummer(a[0]) || !in(a[1], 0, 100) || !in(a[2], 0, 2)) {
                    return BAD;
                }
                World world = now.copy();
                List<List<Integer>> beats = world.beats(a[1]);
                if (a[2] == 0) {
                    return world.ones.get(a[0]).counts[0];
                }
                return a[2] == 2 ? a[1] == 0 ? 0 : beats.get(a[1] - 1).size()
                        : (int) beats.stream().filter(strike -> strike.contains(a[0])).count();
            }
            case "soon": case "all": {
                List<List<Integer>> beats = now.copy().beats(100);
                for (int k = 0; k < 100; k++) {
                    if (!beats.get(k).isEmpty() && (name.equals("soon") || beats.get(k).size() == now.ones.size())) {
                        return k + 1;
                    }
                }
                return NONE;
            }
            case "spread":
                return in(a[0], 1, 100) ? spread(now, a[0]) : BAD;
            case "toWhom":
                return in(a[0], 1, 60) ? toWhom(a[0]) : BAD;
            default:
                return in(a[0], 1, 40) && in(a[1], 0, 2) ? mend(a[0], a[1]) : BAD;
        }
    }

    private int toWhom(int n) {
        int best = NONE;
        int least = Integer.MAX_VALUE;
        for (int k = 0; k < now.ones.size(); k++) {
            if (now.ones.get(k).counts[0] == 0) {
                World world = now.copy();
                world.ones.get(k).counts[0] = world.wakes(k);
                int spread = spread(world, n);
                if (spread != NONE && spread < least) {
                    least = spread;
                    best = k;
                }
            }
        }
        return best;
    }

    private int mend(int n, int what) {
        int best = most(now, n);
        int[] found = {NONE, NONE, NONE};
        for (int k = 0; k < now.ones.size(); k++) {
            for (int start = 1; start <= 9; start++) {
                World world = now.copy();
                world.ones.get(k).start = start;
                int most = most(world, n);
                if (most > best) {
                    best = most;
                    found = new int[] {k, start, most};
                }
            }
        }
        return found[what];
    }

    private int far(int one, int other) {
        int far = 0;
        int step = one < other ? 1 : -1;
        for (int k = one; k != other; k += step) {
            far += now.ones.get(step > 0 ? k : k - 1).apart;
        }
        return far;
    }

    private int sounds(String name, int[] a) {
        switch (name) {
            case "far":
                return drummer(a[0]) && drummer(a[1]) ? far(a[0], a[1]) : BAD;
            case "reach": {
                if (!drummer(a[0]) || !in(a[1], 0, 30)) {
                    return BAD;
                }
                int set = 0;
                for (int k = 0; k < now.ones.size(); k++) {
                    set += far(k, a[0]) > a[1] ? 0 : 1 << k;
                }
                return set;
            }
            case "edge": {
                if (!drummer(a[0])) {
                    return BAD;
                }
                int greatest = 0;
                for (int k = 0; k < now.ones.size(); k++) {
                    greatest = Math.max(greatest, far(k, a[0]));
                }
                return greatest;
            }
            case "miscounted":
                if (!in(a[0], 0, 3) || !in(a[1], 1, 60) || !in(a[2], 0, 1)) {
                    return BAD;
                }
                return sheets[a[0]] == null ? NOTHING : miscounted(sheets[a[0]], a[1], a[2]);
            default: {
                int m = now.sum(one -> one.strokes);
                int law = now.why(2);
                return law == NONE ? m : now.laws.get(law).gives("mb", m, now.beat);
            }
        }
    }

    private int miscounted(Row row, int n, int what) {
        int[] found = {NONE, NONE};
        for (int k = 0; k < now.ones.size(); k++) {
            World world = now.copy();
            world.ones.get(k).start = world.ones.get(k).start % 9 + 1;
            List<List<Integer>> beats = world.beats(n);
            int differ = 0;
            for (int place = 0; place < row.places.length; place++) {
                if (row.places[place] != null) {
                    differ += Math.abs(first(beats, place) - row.places[place]);
                }
            }
            if (found[0] == NONE || differ < found[1]) {
                found = new int[] {k, differ};
            }
        }
        return found[what];
    }

    private int texts(String name, int[] a) {
        switch (name) {
            case "feed": {
                if (tape.length() > 84) {
                    return FULL;
                }
                StringBuilder fed = new StringBuilder(tape);
                for (int word : a) {
                    for (byte one : java.nio.ByteBuffer.allocate(4).putInt(word).array()) {
                        fed.append((char) (one & 255));
                    }
                }
                tape = fed.toString();
                return tape.length();
            }
            case "trim":
                if (!in(a[0], 0, tape.length())) {
                    return BAD;
                }
                tape = tape.substring(0, a[0]);
                return a[0];
            case "text": {
                int[] key = {-1};
                List<String> tokens = new ArrayList<>();
                int fault = fault(tape, key, tokens);
                tape = "";
                if (fault >= 0) {
                    return -100 - fault;
                }
                if (now.laws.size() == 14) {
                    return FULL;
                }
                now.laws.add(new Law(key[0], tokens));
                return now.laws.size() - 1;
            }
            case "textTold":
                if (!in(a[0], 0, now.laws.size() - 1) || !in(a[1], 0, 1)) {
                    return BAD;
                }
                return a[1] == 0 ? now.laws.get(a[0]).key : now.laws.get(a[0]).pieces();
            default:
                return in(a[0], 0, 2) ? now.why(a[0]) : BAD;
        }
    }

    private int rows(String name, int[] a) {
        if (!in(a[0], 0, 3)) {
            return BAD;
        }
        Row row = sheets[a[0]];
        switch (name) {
            case "sheet":
                if (a[1] == -1) {
                    sheets[a[0]] = null;
                    return 0;
                }
                if (!in(a[1], 0, 1) || a[2] > 24) {
                    return BAD;
                }
                if (a[2] < 0) {
                    return SIZE;
                }
                Integer[] places = new Integer[a[2]];
                Arrays.fill(places, 0);
                sheets[a[0]] = new Row(a[1], places);
                return a[2];
            case "mark":
                return row == null ? NOTHING : !row.has(a[1]) ? INDEX : mark(row, a[1], a[2]);
            case "pour": {
                int otherwise = 0;
                for (int k = 0; row != null && k < now.ones.size(); k++) {
                    if (row.has(k) && row.places[k] != null) {
                        int start = Math.min(9, Math.max(1, row.places[k]));
                        otherwise += now.ones.get(k).start == start ? 0 : 1;
                        now.ones.get(k).start = start;
                    }
                }
                return row == null ? NOTHING : otherwise;
            }
            case "reads":
                return !drummer(a[1]) ? BAD : row == null ? NOTHING : reads(row, a[1]);
            default:
                return !in(a[2], 0, 3) ? BAD : copy(row, a[1], sheets[a[2]], a[3], a[4]);
        }
    }

    private static int mark(Row row, int place, int v) {
        if (row.sort == 0 && v == NONE) {
            return KIND;
        }
        if (row.sort == 1 && v != NONE && Math.abs((long) v) > 99999) {
            return BAD;
        }
        row.places[place] = row.sort == 0 ? Integer.valueOf((short) v) : v == NONE ? null : Integer.valueOf(v);
        return 1;
    }

    private int reads(Row row, int k) {
        for (int place = 0; place < row.places.length; place++) {
            World world = now.copy();
            world.beats(place);
            if (row.places[place] != null && row.places[place] != world.ones.get(k).counts[0]) {
                return place;
            }
        }
        return NONE;
    }

    private static int copy(Row from, int place, Row to, int at, int many) {
        if (from == null || to == null) {
            return NOTHING;
        }
        if (from.sort != to.sort) {
            return KIND;
        }
        if (place < 0 || at < 0 || many < 0 || (long) place + many > from.places.length
                || (long) at + many > to.places.length) {
            return INDEX;
        }
        Integer[] were = from.places.clone();
        for (int k = 0; k < many; k++) {
            to.places[at + k] = were[place + k];
        }
        return many;
    }

    private int slots(String name, int[] a) {
        if (!in(a[0], 0, 4)) {
            return BAD;
        }
        Object thing = slots[a[0]];
        if (name.equals("lay")) {
            if (!in(a[1], 0, 3) || a[1] == 1 && !drummer(a[2]) || a[1] == 2 && !in(a[2], 0, 3)) {
                return BAD;
            }
            if (a[1] == 2 && sheets[a[2]] == null) {
                return NOTHING;
            }
            slots[a[0]] = a[1] == 0 ? null : a[1] == 1 ? now.ones.get(a[2]).copy() : a[1] == 3 ? (Object) a[2]
                    : new Row(sheets[a[2]].sort, sheets[a[2]].places.clone());
            return thing == null ? 0 : thing instanceof One ? 1 : thing instanceof Row ? 2 : 3;
        }
        if (name.equals("ask") && !in(a[1], 0, 5)) {
            return BAD;
        }
        if (thing == null) {
            return NOTHING;
        }
        switch (name) {
            case "ask":
                return thing instanceof One && ((One) thing).is(a[1]) ? ((One) thing).worth() : KIND;
            case "item":
                if (!(thing instanceof Row)) {
                    return KIND;
                }
                Row row = (Row) thing;
                return !row.has(a[1]) ? INDEX : row.places[a[1]] == null ? KIND : row.places[a[1]];
            default:
                return !(thing instanceof Integer) ? KIND : a[1] == 0 ? NO : (int) ((long) (Integer) thing % a[1]);
        }
    }

    private int images(String name, int[] a) {
        switch (name) {
            case "tell":
                if (waiting.size() == 60) {
                    return FULL;
                }
                waiting.add(a[0]);
                return waiting.size();
            case "check": {
                List<Integer> told = new ArrayList<>(waiting);
                waiting.clear();
                return !in(a[0], 1, 30) ? BAD : image == null ? NO : check(told, a[0]);
            }
            case "keep":
                image = now.copy();
                return image.ones.size();
            case "back":
                if (image == null) {
                    return NO;
                }
                now = image.copy();
                return now.ones.size();
            default:
                return in(a[0], 0, 9) ? count(a[0]) : BAD;
        }
    }

    /** What is due behind n BEATS of THE IMAGE. */
    List<Integer> due(int n) {
        List<Integer> due = new ArrayList<>();
        World world = image == null ? new World() : image.copy();
        for (int k = 0; k < n && world.beat < 9999; k++) {
            due.add(world.beat().size());
            due.add(world.sum(one -> one.counts[0]));
        }
        return due;
    }

    private int check(List<Integer> told, int n) {
        List<Integer> due = due(n);
        if (told.equals(due)) {
            return 0;
        }
        int right = 0;
        while (right < told.size() && right < due.size() && told.get(right).equals(due.get(right))) {
            right++;
        }
        return 1 + right;
    }

    private int count(int what) {
        int[] all = {now.ones.size(), now.beat, now.miss, now.sum(one -> one.strokes),
            now.sum(one -> one.counts[0] > 0 ? 1 : 0), now.sum(one -> one.counts[0]), now.laws.size(), waiting.size(),
            tape.length(), now.z};
        return all[what];
    }
}
