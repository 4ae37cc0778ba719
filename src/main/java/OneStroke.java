import java.util.Arrays;

/**
 * A line of drummers who hear only their neighbours. The document ../shared/DOC.md says what each
 * call does; words in capitals in these comments are the document's terms.
 */
public final class OneStroke {
    public static final int BAD = -1000000001, NO = -1000000002, FULL = -1000000003, NONE = -1000000005,
            NOTHING = -1000000011, KIND = -1000000012, INDEX = -1000000013, SIZE = -1000000014;

    private static final int DRUMMERS = 10, TOP = 9, FARTHEST = 3, LAST_BEAT = 9999, MOST_BEATS = 100;
    private static final int TEXTS = 14, TAPE = 96, FED = 12, DIGITS = 4, NESTED = 8;
    private static final int SHEETS = 4, PLACES = 24, SLOTS = 5, WAITING = 60, GREATEST_FLOAT = 99999;
    private static final int HEAR = 0, START = 1, FINE = 2, KEYS = 3;
    private static final int MISSING = -1, SHORTS = 0, FLOATS = 1;
    private static final int HOLDS_NOTHING = 0, HOLDS_DRUMMER = 1, HOLDS_SHEET = 2, HOLDS_NUMBER = 3;
    private static final int FAULT = -100;

    /** The KIND above each KIND, by numbers; none above DRUMMER. */
    private static final int[] ABOVE = {-1, 0, 0, 1, 2, 0};

    private final Line now, image, thought;
    private boolean imageKept;
    private final Tape tape;
    private final Sheet[] sheets;
    /** What each SLOT holds, and where it holds it. */
    private final int[] held, heldNumbers;
    private final Drummer[] heldDrummers;
    private final Sheet[] heldSheets;
    private final int[] waiting;
    private int waits;
    /** What a search found, by the number that its call takes as what: made once, as no call may need room. */
    private final int[] found;

    public OneStroke() {
        Kind[] kinds = {new Kind(), new Sleepy(), new Eager(), new Late(), new Traitor(), new Deaf()};
        now = new Line(kinds);
        image = new Line(kinds);
        thought = new Line(kinds);
        tape = new Tape();
        sheets = new Sheet[SHEETS];
        for (int k = 0; k < SHEETS; k++) {
            sheets[k] = new Sheet();
        }
        held = new int[SLOTS];
        heldNumbers = new int[SLOTS];
        heldDrummers = new Drummer[SLOTS];
        heldSheets = new Sheet[SLOTS];
        for (int k = 0; k < SLOTS; k++) {
            heldDrummers[k] = new Drummer();
            heldSheets[k] = new Sheet();
        }
        waiting = new int[WAITING];
        found = new int[3];
    }

    // ---- the line

    public int drummer(int kind, int start) {
        if (!isKind(kind) || !isWithin(start, 1, TOP)) {
            return BAD;
        }
        return now.size >= DRUMMERS ? FULL : now.join(kind, start);
    }

    public int told(int drummer, int what) {
        if (!isDrummer(drummer)) {
            return BAD;
        }
        Drummer one = now.drummers[drummer];
        switch (what) {
            case 0: return one.kind;
            case 1: return one.start;
            case 2: return one.count;
            case 3: return one.ago1;
            case 4: return one.ago2;
            case 5: return one.strokes;
            case 6: return one.first == 0 ? NONE : one.first;
            case 7: return one.apart;
            case 8: return now.kindOf(one).hears(now, drummer) ? 1 : 0;
            case 9: return now.wakesTo(drummer);
            case 10: return one.count == 0 ? 0 : now.kindOf(one).stepFrom(one.count, now.beat);
            case 11: return now.kindOf(one).worth(one.start);
            default: return BAD;
        }
    }

    public int as(int drummer, int kind) {
        if (!isDrummer(drummer) || !isKind(kind)) {
            return BAD;
        }
        Drummer one = now.drummers[drummer];
        return isOf(one.kind, kind) ? one.start : KIND;
    }

    public int turns(int drummer, int kind) {
        if (!isDrummer(drummer) || !isKind(kind)) {
            return BAD;
        }
        Drummer one = now.drummers[drummer];
        int was = one.kind;
        one.kind = kind;
        return was;
    }

    public int set(int drummer, int what, int v) {
        if (!isDrummer(drummer)) {
            return BAD;
        }
        Drummer one = now.drummers[drummer];
        int was = BAD;
        if (what == 1 && isWithin(v, 1, TOP)) {
            was = one.start;
            one.start = v;
        } else if (what == 2 && isWithin(v, 0, TOP)) {
            was = one.count;
            one.count = v;
        } else if (what == 3 && isWithin(v, 1, FARTHEST)) {
            was = one.apart;
            one.apart = v;
        }
        return was;
    }

    public int miss(int v) {
        if (!isWithin(v, 0, 100)) {
            return BAD;
        }
        int was = now.miss;
        now.miss = v;
        return was;
    }

    public int deal(int n) {
        if (!isWithin(n, 1, DRUMMERS)) {
            return BAD;
        }
        int come = Math.min(n, DRUMMERS - now.size);
        for (int k = 0; k < come; k++) {
            int kind = now.draw() % ABOVE.length;
            int start = 1 + now.draw() % TOP;
            now.join(kind, start);
        }
        return come;
    }

    public int seed(int v) {
        int was = now.z;
        now.z = v;
        return was;
    }

    // ---- beats

    public int order(int drummer) {
        if (!isDrummer(drummer)) {
            return BAD;
        }
        if (now.drummers[drummer].count > 0) {
            return NO;
        }
        now.wake(drummer);
        return now.drummers[drummer].count;
    }

    public int hush() {
        int had = now.counting();
        for (int k = 0; k < now.size; k++) {
            now.drummers[k].fallStill();
        }
        return had;
    }

    public int beats(int n) {
        if (!isWithin(n, 1, MOST_BEATS)) {
            return BAD;
        }
        return now.pass(Math.min(n, LAST_BEAT - now.beat));
    }

    public int behind(int drummer, int n, int what) {
        if (!isDrummer(drummer) || !isWithin(n, 0, MOST_BEATS) || !isWithin(what, 0, 2)) {
            return BAD;
        }
        think();
        int striking = 0;
        for (int k = 0; k < n; k++) {
            striking = thought.passOne();
        }
        if (what == 2) {
            return striking;
        }
        return what == 1 ? thought.drummers[drummer].strokes : thought.drummers[drummer].count;
    }

    public int soon() {
        think();
        return thought.firstWithStriking(1);
    }

    public int all() {
        if (now.size == 0) {
            return NONE;
        }
        think();
        return thought.firstWithStriking(now.size);
    }

    public int spread(int n) {
        if (!isWithin(n, 1, MOST_BEATS)) {
            return BAD;
        }
        think();
        return thought.spreadIn(n);
    }

    public int toWhom(int n) {
        if (!isWithin(n, 1, 60)) {
            return BAD;
        }
        int best = NONE;
        int least = 0;
        for (int k = 0; k < now.size; k++) {
            if (now.drummers[k].count == 0) {
                think();
                thought.wake(k);
                int apart = thought.spreadIn(n);
                if (apart != NONE && (best == NONE || apart < least)) {
                    best = k;
                    least = apart;
                }
            }
        }
        return best;
    }

    public int mend(int n, int what) {
        if (!isWithin(n, 1, 40) || !isWithin(what, 0, 2)) {
            return BAD;
        }
        return findMend(n) ? found[what] : NONE;
    }

    // ---- sounds

    public int far(int one, int other) {
        return isDrummer(one) && isDrummer(other) ? now.beatsBetween(one, other) : BAD;
    }

    public int reach(int drummer, int n) {
        if (!isDrummer(drummer) || !isWithin(n, 0, 30)) {
            return BAD;
        }
        int set = 0;
        for (int k = 0; k < now.size; k++) {
            if (now.beatsBetween(drummer, k) <= n) {
                set |= 1 << k;
            }
        }
        return set;
    }

    public int edge(int drummer) {
        if (!isDrummer(drummer)) {
            return BAD;
        }
        return Math.max(now.beatsBetween(0, drummer), now.beatsBetween(drummer, now.size - 1));
    }

    public int miscounted(int sheet, int n, int what) {
        if (!isSheet(sheet) || !isWithin(n, 1, 60) || !isWithin(what, 0, 1)) {
            return BAD;
        }
        if (sheets[sheet].isMissing()) {
            return NOTHING;
        }
        return findMiscounted(sheets[sheet], n) ? found[what] : NONE;
    }

    public int fine() {
        Text law = now.lawOf(FINE);
        int strokes = now.strokesOfAll();
        return law == null ? strokes : law.gives(strokes, now.beat, 0);
    }

    // ---- texts

    public int feed(int a, int b, int c) {
        if (tape.length + FED > TAPE) {
            return FULL;
        }
        tape.takeIn(a);
        tape.takeIn(b);
        tape.takeIn(c);
        return tape.length;
    }

    public int trim(int n) {
        if (!isWithin(n, 0, tape.length)) {
            return BAD;
        }
        tape.length = n;
        return n;
    }

    public int text() {
        boolean fits = tape.isText();
        tape.length = 0;
        if (!fits) {
            return FAULT - tape.from;
        }
        return now.textCount >= TEXTS ? FULL : now.takeLaw(tape.readText());
    }

    public int textTold(int text, int what) {
        if (!isWithin(text, 0, now.textCount - 1) || !isWithin(what, 0, 1)) {
            return BAD;
        }
        Text one = now.texts[text];
        return what == 0 ? one.key : one.operands;
    }

    public int why(int key) {
        if (!isWithin(key, 0, KEYS - 1)) {
            return BAD;
        }
        return now.laws[key] < 0 ? NONE : now.laws[key];
    }

    // ---- sheets, slots

    public int sheet(int sheet, int sort, int n) {
        if (!isSheet(sheet) || !isWithin(sort, MISSING, FLOATS)) {
            return BAD;
        }
        int size = sort == MISSING ? 0 : n;
        if (size > PLACES) {
            return BAD;
        }
        if (size < 0) {
            return SIZE;
        }
        sheets[sheet].begin(sort, size);
        return size;
    }

    public int mark(int sheet, int place, int v) {
        if (!isSheet(sheet)) {
            return BAD;
        }
        Sheet row = sheets[sheet];
        if (row.isMissing()) {
            return NOTHING;
        }
        if (!row.hasPlace(place)) {
            return INDEX;
        }
        if (row.sort == SHORTS) {
            if (v == NONE) {
                return KIND;
            }
            row.places[place] = (short) v;
            return 1;
        }
        if (v != NONE && !isWithin(v, -GREATEST_FLOAT, GREATEST_FLOAT)) {
            return BAD;
        }
        row.places[place] = v;
        return 1;
    }

    public int pour(int sheet) {
        if (!isSheet(sheet)) {
            return BAD;
        }
        Sheet row = sheets[sheet];
        if (row.isMissing()) {
            return NOTHING;
        }
        int otherwise = 0;
        for (int k = 0; k < now.size; k++) {
            if (row.hasNumber(k)) {
                int start = withinStarts(row.places[k]);
                if (now.drummers[k].start != start) {
                    now.drummers[k].start = start;
                    otherwise++;
                }
            }
        }
        return otherwise;
    }

    public int reads(int sheet, int drummer) {
        if (!isSheet(sheet) || !isDrummer(drummer)) {
            return BAD;
        }
        Sheet row = sheets[sheet];
        if (row.isMissing()) {
            return NOTHING;
        }
        think();
        for (int k = 0; k < row.size; k++) {
            if (row.hasNumber(k) && row.places[k] != thought.drummers[drummer].count) {
                return k;
            }
            thought.passOne();
        }
        return NONE;
    }

    public int copy(int from, int place, int to, int at, int many) {
        if (!isSheet(from) || !isSheet(to)) {
            return BAD;
        }
        Sheet source = sheets[from];
        Sheet goal = sheets[to];
        if (source.isMissing() || goal.isMissing()) {
            return NOTHING;
        }
        if (source.sort != goal.sort) {
            return KIND;
        }
        if (!source.hasPlaces(place, many) || !goal.hasPlaces(at, many)) {
            return INDEX;
        }
        System.arraycopy(source.places, place, goal.places, at, many);
        return many;
    }

    public int lay(int slot, int thing, int k) {
        if (!isSlot(slot) || !isWithin(thing, HOLDS_NOTHING, HOLDS_NUMBER)
                || thing == HOLDS_DRUMMER && !isDrummer(k) || thing == HOLDS_SHEET && !isSheet(k)) {
            return BAD;
        }
        if (thing == HOLDS_SHEET && sheets[k].isMissing()) {
            return NOTHING;
        }
        int was = held[slot];
        held[slot] = thing;
        if (thing == HOLDS_DRUMMER) {
            heldDrummers[slot].setAs(now.drummers[k]);
        } else if (thing == HOLDS_SHEET) {
            heldSheets[slot].fillAs(sheets[k]);
        } else {
            heldNumbers[slot] = k;
        }
        return was;
    }

    public int ask(int slot, int kind) {
        if (!isSlot(slot) || !isKind(kind)) {
            return BAD;
        }
        if (held[slot] == HOLDS_NOTHING) {
            return NOTHING;
        }
        Drummer one = heldDrummers[slot];
        if (held[slot] != HOLDS_DRUMMER || !isOf(one.kind, kind)) {
            return KIND;
        }
        return now.kindOf(one).worth(one.start);
    }

    public int item(int slot, int place) {
        if (!isSlot(slot)) {
            return BAD;
        }
        if (held[slot] == HOLDS_NOTHING) {
            return NOTHING;
        }
        if (held[slot] != HOLDS_SHEET) {
            return KIND;
        }
        Sheet row = heldSheets[slot];
        if (!row.hasPlace(place)) {
            return INDEX;
        }
        return row.hasNumber(place) ? row.places[place] : KIND;
    }

    public int rest(int slot, int n) {
        if (!isSlot(slot)) {
            return BAD;
        }
        if (held[slot] == HOLDS_NOTHING) {
            return NOTHING;
        }
        if (held[slot] != HOLDS_NUMBER) {
            return KIND;
        }
        return n == 0 ? NO : heldNumbers[slot] % n;
    }

    // ---- rows, images

    public int tell(int v) {
        if (waits >= WAITING) {
            return FULL;
        }
        waiting[waits] = v;
        waits++;
        return waits;
    }

    public int check(int n) {
        int wait = waits;
        waits = 0;
        if (!isWithin(n, 1, 30)) {
            return BAD;
        }
        if (!imageKept) {
            return NO;
        }
        thought.become(image);
        int due = 2 * Math.min(n, LAST_BEAT - image.beat);
        for (int k = 0; k < due; k++) {
            // Each BEAT is told by two numbers: it passes ahead of the first of them.
            int right = k % 2 == 0 ? thought.passOne() : thought.countsOfAll();
            if (k >= wait || waiting[k] != right) {
                return 1 + k;
            }
        }
        return wait > due ? 1 + due : 0;
    }

    public int keep() {
        image.become(now);
        imageKept = true;
        return image.size;
    }

    public int back() {
        if (!imageKept) {
            return NO;
        }
        now.become(image);
        return now.size;
    }

    public int count(int what) {
        switch (what) {
            case 0: return now.size;
            case 1: return now.beat;
            case 2: return now.miss;
            case 3: return now.strokesOfAll();
            case 4: return now.counting();
            case 5: return now.countsOfAll();
            case 6: return now.textCount;
            case 7: return waits;
            case 8: return tape.length;
            case 9: return now.z;
            default: return BAD;
        }
    }

    // ---- what may be asked for

    private static boolean isWithin(int v, int least, int greatest) {
        return v >= least && v <= greatest;
    }

    private static boolean isKind(int kind) {
        return kind >= 0 && kind < ABOVE.length;
    }

    private static boolean isSheet(int sheet) {
        return sheet >= 0 && sheet < SHEETS;
    }

    private static boolean isSlot(int slot) {
        return slot >= 0 && slot < SLOTS;
    }

    private boolean isDrummer(int drummer) {
        return drummer >= 0 && drummer < now.size;
    }

    /** Whether a KIND is the wanted one or stands under it. */
    private static boolean isOf(int kind, int wanted) {
        int one = kind;
        for (int k = 0; k < ABOVE.length && isKind(one); k++) {
            if (one == wanted) {
                return true;
            }
            one = ABOVE[one];
        }
        return false;
    }

    private static int withinStarts(int start) {
        return Math.max(1, Math.min(TOP, start));
    }

    // ---- what is only thought

    /** STROKES are forgotten in thought, so that those told there are the ones made from now on. */
    private void think() {
        thought.become(now);
        for (int k = 0; k < thought.size; k++) {
            thought.drummers[k].strokes = 0;
            thought.drummers[k].first = 0;
        }
    }

    /** Keeps the DRUMMER, the START and how many strike then, if it is more than as it is. */
    private boolean findMend(int n) {
        think();
        int most = thought.mostAtOnce(n);
        boolean better = false;
        for (int k = 0; k < now.size; k++) {
            for (int start = 1; start <= TOP; start++) {
                if (start != now.drummers[k].start) {
                    think();
                    thought.drummers[k].start = start;
                    int striking = thought.mostAtOnce(n);
                    if (striking > most) {
                        most = striking;
                        better = true;
                        found[0] = k;
                        found[1] = start;
                        found[2] = striking;
                    }
                }
            }
        }
        return better;
    }

    /** Keeps the DRUMMER and the differences, together; without DRUMMERS there is none. */
    private boolean findMiscounted(Sheet row, int n) {
        for (int k = 0; k < now.size; k++) {
            think();
            int start = now.drummers[k].start;
            thought.drummers[k].start = start >= TOP ? 1 : start + 1;
            thought.pass(n);
            int differ = differences(row);
            if (k == 0 || differ < found[1]) {
                found[0] = k;
                found[1] = differ;
            }
        }
        return now.size > 0;
    }

    /** One that is not there does not strike: its first BEAT is 0, as that of any who does not. */
    private int differences(Sheet row) {
        int differ = 0;
        for (int k = 0; k < row.size; k++) {
            if (row.hasNumber(k)) {
                boolean strikes = k < thought.size && thought.drummers[k].first > 0;
                int first = strikes ? thought.drummers[k].first - now.beat : 0;
                differ += Math.abs(first - row.places[k]);
            }
        }
        return differ;
    }

    // ---- KINDS: each says only what it does otherwise than the one above it

    private static class Kind {
        boolean hears(Line line, int drummer) {
            return line.hearGives(drummer) != 0;
        }

        int wakesFrom(int start) {
            return start;
        }

        int stepFrom(int count, int beat) {
            return count >= TOP ? 0 : count + 1;
        }

        int worth(int start) {
            return start;
        }
    }

    private static class Sleepy extends Kind {
        @Override
        int stepFrom(int count, int beat) {
            return beat % 4 == 3 ? count : super.stepFrom(count, beat);
        }

        @Override
        int worth(int start) {
            return super.worth(start) + 4;
        }
    }

    private static final class Late extends Sleepy {
        @Override
        int wakesFrom(int start) {
            return Math.max(1, super.wakesFrom(start) - 1);
        }

        @Override
        int worth(int start) {
            return 2 * super.worth(start);
        }
    }

    private static class Eager extends Kind {
        @Override
        int wakesFrom(int start) {
            return Math.min(TOP, super.wakesFrom(start) + 1);
        }

        @Override
        int worth(int start) {
            return 20 - start;
        }
    }

    private static final class Traitor extends Eager {
        @Override
        int stepFrom(int count, int beat) {
            return count == TOP - 1 ? 0 : super.stepFrom(count, beat);
        }

        @Override
        int worth(int start) {
            return super.worth(start) - 5;
        }
    }

    private static final class Deaf extends Kind {
        @Override
        boolean hears(Line line, int drummer) {
            return line.soundFrom(drummer - 1, drummer) > 0;
        }

        @Override
        int worth(int start) {
            return 6;
        }
    }

    private static final class Drummer {
        int kind, start, count, ago1, ago2, strokes, apart;
        /** THE BEAT of the first stroke; 0 is none, as THE BEAT is 1 at least behind any stroke. */
        int first;

        void begin(int itsKind, int itsStart) {
            kind = itsKind;
            start = itsStart;
            strokes = 0;
            first = 0;
            apart = 1;
            fallStill();
        }

        void fallStill() {
            count = 0;
            ago1 = 0;
            ago2 = 0;
        }

        void setAs(Drummer other) {
            kind = other.kind;
            start = other.start;
            count = other.count;
            ago1 = other.ago1;
            ago2 = other.ago2;
            strokes = other.strokes;
            apart = other.apart;
            first = other.first;
        }

        int countAgo(int beats) {
            if (beats <= 0) {
                return count;
            }
            return beats == 1 ? ago1 : ago2;
        }

        /** Whether it strikes with its new COUNT in the BEAT that ends with that number. */
        boolean moves(int newCount, int newBeat) {
            ago2 = ago1;
            ago1 = count;
            count = newCount;
            if (count != TOP || ago1 == TOP) {
                return false;
            }
            strokes++;
            if (first == 0) {
                first = newBeat;
            }
            return true;
        }
    }

    /** All that AN IMAGE keeps; one more is where things are thought. */
    private static final class Line {
        final Kind[] kinds;
        final Drummer[] drummers;
        final Text[] texts;
        /** The number of the TEXT that counts for each KEY; -1 without one. */
        final int[] laws;
        int size, beat, miss, z, textCount;

        Line(Kind[] allKinds) {
            kinds = allKinds;
            drummers = new Drummer[DRUMMERS];
            for (int k = 0; k < DRUMMERS; k++) {
                drummers[k] = new Drummer();
            }
            texts = new Text[TEXTS];
            laws = new int[KEYS];
            Arrays.fill(laws, -1);
            z = 1;
        }

        void become(Line other) {
            size = other.size;
            beat = other.beat;
            miss = other.miss;
            z = other.z;
            textCount = other.textCount;
            for (int k = 0; k < other.size; k++) {
                drummers[k].setAs(other.drummers[k]);
            }
            for (int k = 0; k < other.textCount; k++) {
                texts[k] = other.texts[k];
            }
            System.arraycopy(other.laws, 0, laws, 0, KEYS);
        }

        int join(int kind, int start) {
            drummers[size].begin(kind, start);
            size++;
            return size - 1;
        }

        Kind kindOf(Drummer one) {
            return kinds[one.kind];
        }

        int takeLaw(Text text) {
            texts[textCount] = text;
            laws[text.key] = textCount;
            textCount++;
            return textCount - 1;
        }

        Text lawOf(int key) {
            int number = laws[key];
            return number < 0 || number >= textCount ? null : texts[number];
        }

        int draw() {
            z = z * 1103515245 + 12345;
            return z >>> 8;
        }

        /** SOUND of a neighbour; 0 without one. */
        int soundFrom(int neighbour, int hearer) {
            if (neighbour < 0 || neighbour >= size) {
                return 0;
            }
            int apart = drummers[Math.min(neighbour, hearer)].apart;
            return drummers[neighbour].countAgo(apart - 1);
        }

        int hearGives(int drummer) {
            int lesser = soundFrom(drummer - 1, drummer);
            int other = soundFrom(drummer + 1, drummer);
            Text law = lawOf(HEAR);
            if (law != null) {
                return law.gives(lesser, other, drummer);
            }
            return lesser > 0 || other > 0 ? 1 : 0;
        }

        int wakesTo(int drummer) {
            Drummer one = drummers[drummer];
            Text law = lawOf(START);
            int start = law == null ? one.start : withinStarts(law.gives(one.start, drummer, beat));
            return kindOf(one).wakesFrom(start);
        }

        void wake(int drummer) {
            drummers[drummer].count = wakesTo(drummer);
        }

        /** One BEAT: how many strike. */
        int passOne() {
            int hearing = 0;
            for (int k = 0; k < size; k++) {
                // HEARS changes nothing, and is of use only where COUNT is 0.
                if (drummers[k].count == 0 && kindOf(drummers[k]).hears(this, k)) {
                    hearing |= 1 << k;
                }
            }
            int striking = 0;
            for (int k = 0; k < size; k++) {
                int next = nextCount(k, (hearing >> k & 1) == 1);
                if (drummers[k].moves(next, beat + 1)) {
                    striking++;
                }
            }
            beat++;
            return striking;
        }

        int nextCount(int drummer, boolean hears) {
            Drummer one = drummers[drummer];
            if (one.count == 0) {
                return hears ? wakesTo(drummer) : 0;
            }
            if (draw() % 100 < miss) {
                return one.count;
            }
            return kindOf(one).stepFrom(one.count, beat);
        }

        /** Some BEATS: how many STROKES there are in them. */
        int pass(int beats) {
            int strokes = 0;
            for (int k = 0; k < beats; k++) {
                strokes += passOne();
            }
            return strokes;
        }

        int firstWithStriking(int many) {
            for (int k = 1; k <= MOST_BEATS; k++) {
                if (passOne() >= many) {
                    return k;
                }
            }
            return NONE;
        }

        int mostAtOnce(int beats) {
            int most = 0;
            for (int k = 0; k < beats; k++) {
                most = Math.max(most, passOne());
            }
            return most;
        }

        /** SPREAD, on a line whose STROKES were forgotten ahead of these BEATS. */
        int spreadIn(int beats) {
            pass(beats);
            int least = 0;
            int greatest = 0;
            for (int k = 0; k < size; k++) {
                int first = drummers[k].first;
                if (first == 0) {
                    return NONE;
                }
                least = k == 0 ? first : Math.min(least, first);
                greatest = Math.max(greatest, first);
            }
            return size == 0 ? NONE : greatest - least;
        }

        int beatsBetween(int one, int other) {
            int far = 0;
            for (int k = Math.min(one, other); k < Math.max(one, other); k++) {
                far += drummers[k].apart;
            }
            return far;
        }

        int counting() {
            int many = 0;
            for (int k = 0; k < size; k++) {
                if (drummers[k].count > 0) {
                    many++;
                }
            }
            return many;
        }

        int countsOfAll() {
            int sum = 0;
            for (int k = 0; k < size; k++) {
                sum += drummers[k].count;
            }
            return sum;
        }

        int strokesOfAll() {
            int sum = 0;
            for (int k = 0; k < size; k++) {
                sum += drummers[k].strokes;
            }
            return sum;
        }
    }

    /** A TEXT as a row of codes: what a sign joins stands ahead of it, so that no call nests when it is worked out. */
    private static final class Text {
        /** A code below NAME is a NUMBER; below SIGN, a NAME by its place among those of its KEY; else a sign. */
        static final int NAME = 10000, SIGN = 20000;

        final int key, operands;
        final int[] codes, stack;

        Text(int itsKey, int itsOperands, int[] itsCodes) {
            key = itsKey;
            operands = itsOperands;
            codes = itsCodes;
            stack = new int[itsOperands];
        }

        /** The KEY's word. */
        static String wordOf(int key) {
            switch (key) {
                case HEAR: return "hear";
                case START: return "start";
                default: return "fine";
            }
        }

        /** The KEY's NAMES, in the order in which gives takes what they stand for. */
        static String namesOf(int key) {
            switch (key) {
                case HEAR: return "lrn";
                case START: return "snb";
                default: return "mb";
            }
        }

        int gives(int first, int second, int third) {
            int top = 0;
            for (int k = 0; k < codes.length; k++) {
                int code = codes[k];
                if (code < SIGN) {
                    if (top < stack.length) {
                        stack[top] = code < NAME ? code : code == NAME ? first : code == NAME + 1 ? second : third;
                        top++;
                    }
                } else if (code == SIGN + '!') {
                    if (top >= 1) {
                        stack[top - 1] = stack[top - 1] == 0 ? 1 : 0;
                    }
                } else if (top >= 2) {
                    top--;
                    stack[top - 1] = joined(code - SIGN, stack[top - 1], stack[top]);
                }
            }
            return top > 0 ? stack[0] : 0;
        }

        static int joined(int sign, int left, int right) {
            switch (sign) {
                case '|': return left != 0 || right != 0 ? 1 : 0;
                case '&': return left != 0 && right != 0 ? 1 : 0;
                case '<': return left < right ? 1 : 0;
                case '=': return left == right ? 1 : 0;
                case '>': return left > right ? 1 : 0;
                case '+': return left + right;
                case '-': return left - right;
                case '*': return left * right;
                default: return right == 0 ? 0 : left / right;
            }
        }
    }

    /** THE TAPE and how it is read; a token is a word or a sign. */
    private static final class Tape {
        /** What a token is, where it is no sign (those are told by their byte); UNFIT is one that no TEXT has. */
        static final int END = -1, WORD = -2, NUMBER = -3, UNFIT = -4;
        /** How tightly signs bind, the loosest first. */
        static final int OR = 0, TEST = 2, PIECE = 5;

        final byte[] bytes;
        int length;
        /** The token's first byte, and the one behind it. */
        int from, after;
        int token, key, operands, codeCount;
        final int[] codes;

        Tape() {
            bytes = new byte[TAPE];
            codes = new int[TAPE];
        }

        void takeIn(int number) {
            for (int shift = 24; shift >= 0 && length < TAPE; shift -= 8) {
                bytes[length] = (byte) (number >> shift);
                length++;
            }
        }

        Text readText() {
            return new Text(key, operands, Arrays.copyOf(codes, codeCount));
        }

        /** Whether all of it is a TEXT; if not, FAULT is the token at which it stopped. */
        boolean isText() {
            after = 0;
            token = END;
            operands = 0;
            codeCount = 0;
            next();
            if (!isKey()) {
                return false;
            }
            next();
            return isSide(OR, 0, 0) && token == END;
        }

        boolean isKey() {
            for (int k = 0; token == WORD && k < KEYS; k++) {
                if (isTheWord(Text.wordOf(k))) {
                    key = k;
                    return true;
                }
            }
            return false;
        }

        boolean isTheWord(String word) {
            if (after - from != word.length()) {
                return false;
            }
            for (int k = 0; k < word.length(); k++) {
                if (byteAt(from + k) != word.charAt(k)) {
                    return false;
                }
            }
            return true;
        }

        /** One level of E with its signs, and all that bind tighter; brackets and nots are how many are open. */
        private boolean isSide(int level, int brackets, int nots) {
            if (level >= PIECE) {
                return isPiece(brackets, nots);
            }
            if (!isSide(level + 1, brackets, nots)) {
                return false;
            }
            for (int k = 0; k < TAPE && levelOf(token) == level; k++) {
                int sign = token;
                next();
                if (!isSide(level + 1, brackets, nots)) {
                    return false;
                }
                write(Text.SIGN + sign);
                if (level == TEST) {
                    return true;
                }
            }
            return true;
        }

        static int levelOf(int sign) {
            switch (sign) {
                case '|': return OR;
                case '&': return 1;
                case '<': case '=': case '>': return TEST;
                case '+': case '-': return 3;
                case '*': case '/': return 4;
                default: return PIECE;
            }
        }

        private boolean isPiece(int brackets, int nots) {
            switch (token) {
                case NUMBER: return takes(number());
                case WORD: return isName();
                case '!':
                    if (nots >= NESTED) {
                        return false;
                    }
                    next();
                    if (!isPiece(brackets, nots + 1)) {
                        return false;
                    }
                    write(Text.SIGN + '!');
                    return true;
                case '(':
                    if (brackets >= NESTED) {
                        return false;
                    }
                    next();
                    if (!isSide(OR, brackets + 1, nots) || token != ')') {
                        return false;
                    }
                    next();
                    return true;
                default: return false;
            }
        }

        boolean isName() {
            int name = after - from == 1 ? Text.namesOf(key).indexOf((char) byteAt(from)) : -1;
            return name >= 0 && takes(Text.NAME + name);
        }

        int number() {
            int value = 0;
            for (int k = from; k < after; k++) {
                value = value * 10 + byteAt(k) - '0';
            }
            return value;
        }

        boolean takes(int operand) {
            write(operand);
            operands++;
            next();
            return true;
        }

        void write(int code) {
            if (codeCount < TAPE) {
                codes[codeCount] = code;
                codeCount++;
            }
        }

        void next() {
            int last = after;
            boolean behindWord = isWord();
            from = last;
            while (from < length && byteAt(from) == ' ') {
                from++;
            }
            after = from;
            if (from >= length) {
                token = END;
            } else if (isLetter(byteAt(from))) {
                while (after < length && isLetter(byteAt(after))) {
                    after++;
                }
                token = WORD;
            } else if (isDigit(byteAt(from))) {
                while (after < length && isDigit(byteAt(after))) {
                    after++;
                }
                token = after - from > DIGITS ? UNFIT : NUMBER;
            } else {
                token = byteAt(from);
                after++;
            }
            if (behindWord && from == last && isWord()) {
                token = UNFIT;
            }
        }

        boolean isWord() {
            return token == WORD || token == NUMBER;
        }

        int byteAt(int place) {
            return place >= 0 && place < length ? bytes[place] & 255 : 0;
        }

        static boolean isLetter(int sign) {
            return sign >= 'a' && sign <= 'z';
        }

        static boolean isDigit(int sign) {
            return sign >= '0' && sign <= '9';
        }
    }

    /** A place that is NO NUMBER holds NONE, which no number of a place can be. */
    private static final class Sheet {
        int sort, size;
        final int[] places;

        Sheet() {
            sort = MISSING;
            places = new int[PLACES];
        }

        void begin(int itsSort, int itsSize) {
            sort = itsSort;
            size = itsSize;
            Arrays.fill(places, 0);
        }

        void fillAs(Sheet other) {
            sort = other.sort;
            size = other.size;
            System.arraycopy(other.places, 0, places, 0, PLACES);
        }

        boolean isMissing() {
            return sort == MISSING;
        }

        boolean hasPlace(int place) {
            return place >= 0 && place < size;
        }

        boolean hasPlaces(int place, int many) {
            return place >= 0 && many >= 0 && many <= size && place <= size - many;
        }

        boolean hasNumber(int place) {
            return hasPlace(place) && places[place] != NONE;
        }
    }
}
