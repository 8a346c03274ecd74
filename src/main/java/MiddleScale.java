import java.util.Arrays;
import java.util.NoSuchElementException;

/** A shed with scales that lift the middle one of three; the document's promises are told at the methods by number. */
public final class MiddleScale {
    public static final int NONE = -1;

    private static final int LEAST_THINGS = 3;
    private static final int MOST_THINGS = 7;
    private static final int MOST_SCALES = 4;
    private static final int MOST_NOTES = 16;
    private static final int MOST_TEXTS = 8;
    private static final int MOST_LINES = 12;
    private static final int MOST_DIGITS = 3;
    private static final int MOST_PRICE = 99;
    private static final int MOST_LIES = 3;
    private static final int MOST_WEIGHT = 999;
    private static final int TAPE_ROOM = 400;
    private static final int FED = 20;
    private static final int BLANK = 32;
    private static final int DIGIT_0 = 48;

    private static final int THREE = 0;
    private static final int FOUR = 1;
    private static final int TWO = 2;
    private static final int KINDS = 3;

    /** 5040 rows of seven things, 64 in a long. */
    private static final int MOST_WORDS = 79;
    /** No set is laid twice on one way, and there are 35 sets at most. */
    private static final int LEVELS = 40;
    private static final int MOST_STEPS = 4000;
    private static final int MOST_LAYINGS = 8;
    private static final int SPENT = -2;

    /** Where the answers that cost most are kept, each by KIND, until the rows left change. */
    private static final int KEPT_MOST = 0;
    private static final int KEPT_TOTAL = 3;
    private static final int KEPT_SURE = 6;
    private static final int KEPT_FEWEST = 9;
    private static final int KEPT_WHERE = 12;
    private static final int KEPT_ROOM = 33;
    /** No answer that is kept is below SPENT. */
    private static final int NOT_ASKED = -3;

    private final Reader reader = new Reader();
    private final Tape tape = reader.tape;
    private final Store now = new Store();
    private final Store picture = new Store();
    private final AllRows[] worlds = new AllRows[MOST_THINGS - LEAST_THINGS + 1];
    private final Fitting fitting = new Fitting();
    private final RowSet left = new RowSet();
    private final RowSet[] levels = new RowSet[LEVELS];
    private final Walk walk = new Walk();
    private final Learner learner = new Learner();
    private final Sorter sorter = new Sorter();
    private final int[] answers = new int[KEPT_ROOM];
    private boolean fresh = false;
    private boolean imaged = false;
    private int wrongByte = NONE;

    /** Promise 1. */
    public MiddleScale() {
        for (int i = 0; i < levels.length; i++) {
            levels[i] = new RowSet();
        }
    }

    /** Promise 2. */
    public int feed(int a, int b, int c, int d, int e) {
        if (tape.length + FED > TAPE_ROOM) {
            return NONE;
        }
        tape.put(a);
        tape.put(b);
        tape.put(c);
        tape.put(d);
        tape.put(e);
        return tape.length;
    }

    /** Promise 3. */
    public boolean end(int n) {
        if (n < 0 || n > tape.length) {
            return false;
        }
        tape.length = n;
        return true;
    }

    /** Promise 4. */
    public int shed() throws IllegalArgumentException, UnsupportedOperationException {
        Store trial = reader.store;
        trial.takeOver(now);
        wrongByte = reader.read(tape.useUp());
        if (wrongByte != NONE) {
            throw new IllegalArgumentException("the text is wrong");
        }
        if (now.texts >= MOST_TEXTS) {
            throw new UnsupportedOperationException("there are 8 texts");
        }
        trial.texts++;
        now.takeOver(trial);
        fresh = false;
        return now.texts;
    }

    /** Promise 5. */
    public int fault() {
        return wrongByte;
    }

    /** Promise 6. */
    public void things(int n) throws IllegalArgumentException, IllegalStateException {
        if (n < LEAST_THINGS || n > MOST_THINGS) {
            throw new IllegalArgumentException("things are 3 to 7");
        }
        if (now.notes > 0) {
            throw new IllegalStateException("there are notes");
        }
        now.setThings(n);
        fresh = false;
    }

    /** Promise 7. */
    public int scale(int kind, int price, int lies) throws IllegalArgumentException, UnsupportedOperationException {
        if (!within(kind, KINDS - 1) || !within(price, MOST_PRICE) || !within(lies, MOST_LIES)) {
            throw new IllegalArgumentException("a number is none");
        }
        if (now.scales >= MOST_SCALES) {
            throw new UnsupportedOperationException("there are 4 scales");
        }
        return now.addScale(kind, price, lies);
    }

    /** Promise 8. */
    public int weight(int thing, int n) throws IndexOutOfBoundsException, IllegalArgumentException {
        needThing(thing);
        if (!within(n, MOST_WEIGHT)) {
            throw new IllegalArgumentException("no weight");
        }
        int was = now.weights[thing];
        now.weights[thing] = n;
        return was;
    }

    /** Promise 9. */
    public int rises(int scale, int set) throws IndexOutOfBoundsException, IllegalArgumentException {
        needScale(scale);
        needLoad(scale, set);
        return now.riser(now.kinds[scale], set);
    }

    /** Promise 10. */
    public int note(int scale, int set, int rose)
            throws IndexOutOfBoundsException, IllegalArgumentException, UnsupportedOperationException {
        needScale(scale);
        needLoad(scale, set);
        if (!now.isThing(rose) || !holds(set, rose)) {
            throw new IllegalArgumentException("what rose is not on the scale");
        }
        if (now.notes >= MOST_NOTES) {
            throw new UnsupportedOperationException("there are 16 notes");
        }
        fresh = false;
        return now.addNote(scale, set, rose);
    }

    /** Promise 11. */
    public int look(int note, int what) throws IndexOutOfBoundsException, NoSuchElementException {
        needNote(note);
        switch (what) {
            case 0:
                return now.noteScale[note];
            case 1:
                return now.noteSet[note];
            case 2:
                return now.noteRose[note];
            default:
                throw new NoSuchElementException("another what");
        }
    }

    /** Promise 12. */
    public int drop(int note) throws IndexOutOfBoundsException {
        needNote(note);
        now.putAway(note);
        fresh = false;
        return now.notes;
    }

    /** Promise 13. */
    public int rows() {
        return rowsLeft().size;
    }

    /** Promise 14. */
    public int row(int k, int place) throws IndexOutOfBoundsException {
        if (!now.isThing(place)) {
            throw new IndexOutOfBoundsException("no such place");
        }
        int number = rowsLeft().numberAt(k);
        return number == NONE ? NONE : at(allRows().packed(number), place);
    }

    /** Promise 15. */
    public boolean fits() throws IllegalArgumentException {
        int told = toldRow();
        return rowsLeft().has(allRows().numberOf(told));
    }

    /** Promise 16. */
    public int may(int set) throws IllegalArgumentException {
        needThree(set);
        return mayRise(set);
    }

    /** Promise 17. */
    public int heavier(int first, int second) throws IndexOutOfBoundsException, IllegalArgumentException {
        int above = rowsHeavier(first, second);
        int size = rowsLeft().size;
        if (size == 0 || above > 0 && above < size) {
            return NONE;
        }
        return above == 0 ? 0 : 1;
    }

    /** Promise 18. */
    public int places(int thing) throws IndexOutOfBoundsException {
        needThing(thing);
        return allRows().placesOf(rowsLeft(), thing);
    }

    /** Promise 19. */
    public int ends() {
        int pairs = 0;
        for (int a = 0; a < now.things; a++) {
            for (int b = a + 1; b < now.things; b++) {
                pairs += allRows().mayEnd(rowsLeft(), a, b) ? 1 : 0;
            }
        }
        return pairs;
    }

    /** Promise 20. */
    public int goose() {
        int size = rowsLeft().size;
        int bits = 0;
        for (int t = 0; size > 0 && t < now.things; t++) {
            bits |= rowsAtEnd(t) == size ? 1 << t : 0;
        }
        return bits;
    }

    /** Promise 21. */
    public int centre() {
        int bits = 0;
        for (int t = 0; t < now.things; t++) {
            bits |= rowsLeft().meets(allRows().standing(t, now.things / 2)) ? 1 << t : 0;
        }
        return bits;
    }

    /** Promise 22. */
    public boolean known() {
        return allRows().areKnown(rowsLeft());
    }

    /** Promise 23. */
    public int quarrels() {
        fitting.aim(now, allRows());
        return fitting.quarrelling(now);
    }

    /** Promise 24. */
    public int proof() {
        fitting.aim(now, allRows());
        return fitting.leastProof(now, allRows(), levels);
    }

    /** Promise 25. */
    public int wrongly() {
        int bits = 0;
        for (int i = 0; i < now.notes; i++) {
            bits |= sizeWithout(i) > 0 ? 1 << i : 0;
        }
        return bits;
    }

    /** Promise 26. */
    public int mends(int note) throws IndexOutOfBoundsException {
        needNote(note);
        int bits = 0;
        for (int t = 0; t < now.things; t++) {
            if (holds(now.noteSet[note], t) && t != now.noteRose[note]) {
                bits |= sizeHadRisen(note, t) > 0 ? 1 << t : 0;
            }
        }
        return bits;
    }

    /** Promise 27. */
    public int nearly() throws IllegalArgumentException {
        int told = toldRow();
        return allRows().fewestSwaps(rowsLeft(), told);
    }

    /** Promise 28. */
    public int votes(int set) throws IllegalArgumentException {
        needThree(set);
        int best = NONE;
        int most = 0;
        for (int t = 0; t < now.things; t++) {
            int risen = now.timesRisen(set, t);
            if (risen > most) {
                most = risen;
                best = t;
            } else if (risen == most) {
                best = NONE;
            }
        }
        return best;
    }

    /** Promise 29. */
    public int laying(int scale, int set, boolean spread) throws IndexOutOfBoundsException, IllegalArgumentException {
        needScale(scale);
        needLoad(scale, set);
        Layings sets = layingsOf(scale);
        sets.measure(rowsLeft(), sets.indexOf(set));
        return spread ? sets.spread : sets.worst;
    }

    /** Promise 30. */
    public int next(int scale) throws IndexOutOfBoundsException {
        needScale(scale);
        Layings sets = layingsOf(scale);
        return sets.setAt(sets.best(rowsLeft()));
    }

    /** Promise 31. */
    public int fewest(int scale) throws IndexOutOfBoundsException {
        needScale(scale);
        RowSet rows = rowsLeft();
        int slot = KEPT_FEWEST + now.kinds[scale];
        if (answers[slot] == NOT_ASKED) {
            answers[slot] = learner.leastLayings(allRows(), layingsOf(scale), rows, levels);
        }
        return answers[slot];
    }

    /** Promise 32. */
    public int bound(int scale) throws IndexOutOfBoundsException {
        needScale(scale);
        RowSet rows = rowsLeft();
        if (rows.size == 0 || allRows().areKnown(rows)) {
            return 0;
        }
        return leastBound(rows.size, pansOf(now.kinds[scale]));
    }

    /** Promise 33. */
    public int byNext(int scale) throws IndexOutOfBoundsException {
        needScale(scale);
        return walked(KEPT_MOST, now.kinds[scale]);
    }

    /** Promise 34. */
    public boolean wants(int want, int thing) throws IndexOutOfBoundsException, NoSuchElementException {
        switch (want) {
            case 0:
                return known();
            case 1:
                return Integer.bitCount(centre()) == 1;
            case 2:
                return ends() == 1;
            case 3:
                needThing(thing);
                int size = rowsLeft().size;
                int atEnd = rowsAtEnd(thing);
                return size > 0 && (atEnd == 0 || atEnd == size);
            default:
                throw new NoSuchElementException("another want");
        }
    }

    /** Promise 35. */
    public int plain(int first, int second) throws IndexOutOfBoundsException, IllegalArgumentException {
        int above = rowsHeavier(first, second);
        return Math.min(above, rowsLeft().size - above);
    }

    /** Promise 36. */
    public int sorted(int place) throws IndexOutOfBoundsException {
        if (place != NONE && !now.isThing(place)) {
            throw new IndexOutOfBoundsException("no such place");
        }
        sorter.sort(now);
        return place == NONE ? sorter.layings : sorter.line[place];
    }

    /** Promise 37. */
    public int grown(int thing) throws IndexOutOfBoundsException {
        needThing(thing);
        int before = now.notes;
        // From the last on, so that the numbers still to be looked at do not move.
        for (int i = before - 1; i >= 0; i--) {
            if (holds(now.noteSet[i], thing)) {
                now.putAway(i);
            }
        }
        fresh = false;
        return before - now.notes;
    }

    /** Promise 38. */
    public int played(int scale, int wrong, int seed, int what)
            throws IndexOutOfBoundsException, IllegalArgumentException, NoSuchElementException {
        needScale(scale);
        if (!within(wrong, 99)) {
            throw new IllegalArgumentException("no such number of wrong ones");
        }
        if (!within(what, 2)) {
            throw new NoSuchElementException("another what");
        }
        RowSet rows = levels[0];
        rows.copy(rowsLeft());
        int layings = play(rows, now.kinds[scale], wrong, seed);
        if (what == 0) {
            return layings;
        }
        return what == 1 ? rows.size : rows.has(allRows().numberOf(now.trueRow())) ? 1 : 0;
    }

    /** Promise 39. */
    public int sures(boolean without) {
        Layings threes = allRows().layings(THREE);
        int sure = 0;
        for (int s = 0; s < threes.sets.length; s++) {
            int set = threes.sets[s];
            if (Integer.bitCount(mayRise(set)) == 1 && !(without && now.isNoted(set))) {
                sure++;
            }
        }
        return sure;
    }

    /** Promise 40. */
    public int pair(int k) {
        int number = 0;
        for (int a = 0; a < now.things; a++) {
            for (int b = a + 1; b < now.things; b++) {
                if (allRows().mayEnd(rowsLeft(), a, b)) {
                    if (number == k) {
                        return 10 * a + b;
                    }
                    number++;
                }
            }
        }
        return NONE;
    }

    /** Promise 41. */
    public int mean(int scale) throws IndexOutOfBoundsException {
        needScale(scale);
        return walked(KEPT_TOTAL, now.kinds[scale]);
    }

    /** Promise 42. */
    public int cheapest(boolean coin) {
        int best = NONE;
        int least = NONE;
        for (int s = 0; s < now.scales; s++) {
            int cost = now.prices[s] * walked(KEPT_MOST, now.kinds[s]);
            if (walked(KEPT_SURE, now.kinds[s]) == 1 && (best == NONE || cost < least)) {
                best = s;
                least = cost;
            }
        }
        return coin ? least : best;
    }

    /** Promise 43. */
    public int where(int thing, int scale) throws IndexOutOfBoundsException {
        needThing(thing);
        needScale(scale);
        RowSet rows = rowsLeft();
        int slot = KEPT_WHERE + now.kinds[scale] * MOST_THINGS + thing;
        if (answers[slot] == NOT_ASKED) {
            walk.start();
            levels[0].copy(rows);
            walk.go(allRows(), layingsOf(scale), levels, 0, thing);
            answers[slot] = walk.most;
        }
        return answers[slot];
    }

    /** Promise 44. */
    public int tree(int scale, boolean set) throws IndexOutOfBoundsException, IllegalArgumentException {
        int steps = tape.useUp();
        needScale(scale);
        AllRows all = allRows();
        Layings sets = layingsOf(scale);
        RowSet rows = levels[0];
        rows.copy(rowsLeft());
        for (int i = 0; i < steps; i++) {
            int laid = sets.setAt(sets.parting(all, rows));
            int rose = tape.at(i) - DIGIT_0;
            if (laid == NONE || !now.isThing(rose) || !holds(laid, rose)) {
                throw new IllegalArgumentException("it is no way");
            }
            rows.narrow(sets.rising(laid, rose));
        }
        return set ? sets.setAt(sets.parting(all, rows)) : rows.size;
    }

    /** Promise 45. */
    public int needless() {
        int size = rowsLeft().size;
        int bits = 0;
        for (int i = 0; i < now.notes; i++) {
            // Without a note no row is lost: as many rows are the same rows.
            bits |= sizeWithout(i) == size ? 1 << i : 0;
        }
        return bits;
    }

    /** Promise 46. */
    public int stands(int thing, boolean below) throws IndexOutOfBoundsException {
        needThing(thing);
        int size = rowsLeft().size;
        if (size == 0) {
            return NONE;
        }
        int sum = 0;
        for (int p = 0; p < now.things; p++) {
            sum += p * rowsLeft().shared(allRows().standing(thing, p));
        }
        int part = commonPart(sum, size);
        return (below ? size : sum) / (part > 0 ? part : 1);
    }

    /** Promise 47. */
    public int laid(int thing, boolean rose) throws IndexOutOfBoundsException {
        needThing(thing);
        int times = 0;
        for (int i = 0; i < now.notes; i++) {
            boolean counts = rose ? now.noteRose[i] == thing : holds(now.noteSet[i], thing);
            times += counts ? 1 : 0;
        }
        return times;
    }

    /** Promise 48. */
    public void image() {
        picture.takeOver(now);
        imaged = true;
    }

    /** Promise 49. */
    public boolean back() {
        if (!imaged) {
            return false;
        }
        now.takeOver(picture);
        fresh = false;
        return true;
    }

    /** Promise 50. */
    public int count(int what) {
        switch (what) {
            case 0:
                return now.things;
            case 1:
                return now.scales;
            case 2:
                return now.notes;
            case 3:
                return now.texts;
            case 4:
                return now.spentCoin();
            case 5:
                return allRows().mirrored(rowsLeft());
            case 6:
                return now.falseNotes();
            default:
                return NONE;
        }
    }

    private void needThing(int thing) {
        if (!now.isThing(thing)) {
            throw new IndexOutOfBoundsException("no such thing");
        }
    }

    private void needScale(int scale) {
        if (scale < 0 || scale >= now.scales) {
            throw new IndexOutOfBoundsException("no such scale");
        }
    }

    private void needNote(int note) {
        if (note < 0 || note >= now.notes) {
            throw new IndexOutOfBoundsException("no such note");
        }
    }

    private void needLoad(int scale, int set) {
        if (!now.isSet(set, pansOf(now.kinds[scale]))) {
            throw new IllegalArgumentException("not as many things as pans");
        }
    }

    private void needThree(int set) {
        if (!now.isSet(set, 3)) {
            throw new IllegalArgumentException("not three things");
        }
    }

    /** The row on the tape, packed; the tape is used up. */
    private int toldRow() {
        int told = tape.packedRow(tape.useUp(), now.things);
        if (told == NONE) {
            throw new IllegalArgumentException("it is no row");
        }
        return told;
    }

    private AllRows allRows() {
        int k = Math.max(0, Math.min(worlds.length - 1, now.things - LEAST_THINGS));
        AllRows found = worlds[k];
        if (found == null) {
            found = new AllRows(k + LEAST_THINGS);
            found.fill();
            worlds[k] = found;
        }
        return found;
    }

    private Layings layingsOf(int scale) {
        return allRows().layings(now.kinds[scale]);
    }

    /** Rows left, found anew only if something has changed since. */
    private RowSet rowsLeft() {
        if (!fresh) {
            fitting.aim(now, allRows());
            fitting.fit(now, allRows(), NONE, left);
            Arrays.fill(answers, NOT_ASKED);
            fresh = true;
        }
        return left;
    }

    private int rowsHeavier(int first, int second) {
        needThing(first);
        needThing(second);
        if (first == second) {
            throw new IllegalArgumentException("they are one");
        }
        return rowsLeft().shared(allRows().heavierThan(first, second));
    }

    private int rowsAtEnd(int thing) {
        AllRows all = allRows();
        RowSet rows = rowsLeft();
        return rows.shared(all.standing(thing, 0)) + rows.shared(all.standing(thing, now.things - 1));
    }

    private int mayRise(int three) {
        Layings threes = allRows().layings(THREE);
        int bits = 0;
        for (int t = 0; t < now.things; t++) {
            if (holds(three, t) && rowsLeft().meets(threes.rising(three, t))) {
                bits |= 1 << t;
            }
        }
        return bits;
    }

    private int sizeWithout(int note) {
        fitting.aim(now, allRows());
        fitting.fit(now, allRows(), note, levels[0]);
        return levels[0].size;
    }

    private int sizeHadRisen(int note, int thing) {
        fitting.aim(now, allRows());
        fitting.hadRisen(now, allRows(), note, thing);
        fitting.fit(now, allRows(), NONE, levels[0]);
        return levels[0].size;
    }

    /** One walk by next ones tells three answers, so all three are kept. */
    private int walked(int question, int kind) {
        RowSet rows = rowsLeft();
        if (answers[KEPT_MOST + kind] == NOT_ASKED) {
            walk.start();
            levels[0].copy(rows);
            walk.go(allRows(), allRows().layings(kind), levels, 0, NONE);
            answers[KEPT_MOST + kind] = walk.most;
            answers[KEPT_TOTAL + kind] = walk.total;
            answers[KEPT_SURE + kind] = walk.sure ? 1 : 0;
        }
        return answers[question + kind];
    }

    /** Lays next ones until nothing parts any more: how many. */
    private int play(RowSet rows, int kind, int wrong, int seed) {
        Layings sets = allRows().layings(kind);
        int draw = seed;
        int layings = 0;
        for (int turn = 0; turn < LEVELS; turn++) {
            int set = sets.setAt(sets.parting(allRows(), rows));
            if (set == NONE) {
                break;
            }
            draw = 1103515245 * draw + 12345;
            int rose = now.riser(kind, set);
            if ((draw >>> 16 & 0x7fff) % 100 < wrong) {
                rose = behind(set, rose);
            }
            rows.narrow(sets.rising(set, rose));
            layings++;
        }
        return layings;
    }

    private static boolean within(int n, int most) {
        return n >= 0 && n <= most;
    }

    private static boolean holds(int set, int thing) {
        return (set >> thing & 1) == 1;
    }

    /** The thing behind one in rising order of a set, the first behind the last. */
    private static int behind(int set, int thing) {
        for (int step = 1; step < MOST_THINGS; step++) {
            int t = (thing + step) % MOST_THINGS;
            if (holds(set, t)) {
                return t;
            }
        }
        return thing;
    }

    private static int pansOf(int kind) {
        return kind == THREE ? 3 : kind == FOUR ? 4 : 2;
    }

    /** How many of those on a scale are heavier than the one that it lifts. */
    private static int aboveRiser(int kind) {
        return kind == TWO ? 0 : 1;
    }

    /** The least k by which rows are not more than 2 times the pans to the power of k. */
    private static int leastBound(int size, int pans) {
        int k = 0;
        for (int most = 2; most < size && k < LEVELS; most *= pans) {
            k++;
        }
        return k;
    }

    /** A row is packed in three bits a place, the lightest lowest. */
    private static int at(int packed, int place) {
        return packed >> 3 * place & 7;
    }

    private static int commonPart(int a, int b) {
        int x = a;
        int y = b;
        for (int turn = 0; turn < 64 && y != 0; turn++) {
            int rest = x % y;
            x = y;
            y = rest;
        }
        return x;
    }

    /** Bytes that were fed and are not used up yet. */
    private static final class Tape {
        final int[] bytes = new int[TAPE_ROOM];
        int length = 0;

        void put(int four) {
            for (int shift = 24; shift >= 0 && length < bytes.length; shift -= 8) {
                bytes[length] = four >>> shift & 255;
                length++;
            }
        }

        /** The bytes themselves can still be read until others are put. */
        int useUp() {
            int had = length;
            length = 0;
            return had;
        }

        int at(int i) {
            return i >= 0 && i < bytes.length ? bytes[i] : 0;
        }

        int packedRow(int size, int things) {
            if (size != things) {
                return NONE;
            }
            int packed = 0;
            int seen = 0;
            for (int p = 0; p < things; p++) {
                int t = at(p) - DIGIT_0;
                if (t < 0 || t >= things || holds(seen, t)) {
                    return NONE;
                }
                seen |= 1 << t;
                packed |= t << 3 * p;
            }
            return packed;
        }
    }

    /** What the shed holds: all that an image keeps. */
    private static final class Store {
        final int[] weights = new int[MOST_THINGS];
        final int[] kinds = new int[MOST_SCALES];
        final int[] prices = new int[MOST_SCALES];
        final int[] lies = new int[MOST_SCALES];
        final int[] noteScale = new int[MOST_NOTES];
        final int[] noteSet = new int[MOST_NOTES];
        final int[] noteRose = new int[MOST_NOTES];
        int things = LEAST_THINGS;
        int scales = 0;
        int notes = 0;
        int texts = 0;

        void takeOver(Store other) {
            System.arraycopy(other.weights, 0, weights, 0, MOST_THINGS);
            System.arraycopy(other.kinds, 0, kinds, 0, MOST_SCALES);
            System.arraycopy(other.prices, 0, prices, 0, MOST_SCALES);
            System.arraycopy(other.lies, 0, lies, 0, MOST_SCALES);
            System.arraycopy(other.noteScale, 0, noteScale, 0, MOST_NOTES);
            System.arraycopy(other.noteSet, 0, noteSet, 0, MOST_NOTES);
            System.arraycopy(other.noteRose, 0, noteRose, 0, MOST_NOTES);
            things = other.things;
            scales = other.scales;
            notes = other.notes;
            texts = other.texts;
        }

        boolean isThing(int n) {
            return n >= 0 && n < things;
        }

        boolean isSet(int set, int size) {
            return set >= 0 && set < 1 << things && Integer.bitCount(set) == size;
        }

        void setThings(int n) {
            things = n;
            for (int t = n; t < MOST_THINGS; t++) {
                weights[t] = 0;
            }
        }

        int addScale(int kind, int price, int lie) {
            int number = scales;
            if (number < MOST_SCALES) {
                kinds[number] = kind;
                prices[number] = price;
                lies[number] = lie;
                scales++;
            }
            return number;
        }

        int addNote(int scale, int set, int rose) {
            int number = notes;
            if (number < MOST_NOTES) {
                noteScale[number] = scale;
                noteSet[number] = set;
                noteRose[number] = rose;
                notes++;
            }
            return number;
        }

        void putAway(int note) {
            for (int i = note; i + 1 < notes; i++) {
                noteScale[i] = noteScale[i + 1];
                noteSet[i] = noteSet[i + 1];
                noteRose[i] = noteRose[i + 1];
            }
            notes--;
        }

        int kindOfNote(int note) {
            return kinds[noteScale[note]];
        }

        /** Who weighs alike counts by numbers. */
        boolean outweighs(int a, int b) {
            return weights[a] > weights[b] || weights[a] == weights[b] && a > b;
        }

        /** How many of a set the weights put above a thing. */
        int heavierIn(int set, int thing) {
            int above = 0;
            for (int t = 0; t < things; t++) {
                above += holds(set, t) && outweighs(t, thing) ? 1 : 0;
            }
            return above;
        }

        int riser(int kind, int set) {
            int found = 0;
            for (int t = 0; t < things; t++) {
                if (holds(set, t) && heavierIn(set, t) == aboveRiser(kind)) {
                    found = t;
                }
            }
            return found;
        }

        int trueRow() {
            int whole = (1 << things) - 1;
            int packed = 0;
            for (int t = 0; t < things; t++) {
                packed |= t << 3 * (things - 1 - heavierIn(whole, t));
            }
            return packed;
        }

        int spentCoin() {
            int coin = 0;
            for (int i = 0; i < notes; i++) {
                coin += prices[noteScale[i]];
            }
            return coin;
        }

        int falseNotes() {
            int wrong = 0;
            for (int i = 0; i < notes; i++) {
                wrong += riser(kindOfNote(i), noteSet[i]) != noteRose[i] ? 1 : 0;
            }
            return wrong;
        }

        int timesRisen(int three, int thing) {
            int times = 0;
            for (int i = 0; i < notes; i++) {
                boolean votes = kindOfNote(i) == THREE && noteSet[i] == three && noteRose[i] == thing;
                times += votes ? 1 : 0;
            }
            return times;
        }

        boolean isNoted(int three) {
            boolean found = false;
            for (int i = 0; i < notes; i++) {
                found = found || kindOfNote(i) == THREE && noteSet[i] == three;
            }
            return found;
        }
    }

    /** Reads the tape's text into a store of its own, for of a wrong text nothing may stay. */
    private static final class Reader {
        final Tape tape = new Tape();
        final Store store = new Store();
        private int length = 0;
        private int at = 0;
        private int begin = 0;
        private int wrong = NONE;

        /** The first wrong byte, or NONE. */
        int read(int size) {
            length = size;
            at = 0;
            wrong = NONE;
            skipBlanks();
            boolean more = at < length;
            for (int lines = 0; more && lines <= MOST_LINES; lines++) {
                more = readLine(lines) && goesOn();
            }
            return wrong;
        }

        /** Whether a sign behind a line tells that another one comes. */
        private boolean goesOn() {
            skipBlanks();
            if (at >= length) {
                return false;
            }
            if (tape.at(at) != ';') {
                return refuse(at);
            }
            at++;
            return true;
        }

        private boolean readLine(int lines) {
            skipBlanks();
            int first = at;
            if (lines >= MOST_LINES) {
                return refuse(first);
            }
            if (readWord("things")) {
                return store.notes == 0 ? readThings() : refuse(first);
            }
            if (readWord("scale")) {
                return store.scales < MOST_SCALES ? readScale() : refuse(first);
            }
            if (readWord("weight")) {
                return readWeight();
            }
            if (readWord("note")) {
                return store.notes < MOST_NOTES ? readNote() : refuse(first);
            }
            return refuse(first);
        }

        private boolean readThings() {
            int n = readNumber(LEAST_THINGS, MOST_THINGS);
            if (n == NONE) {
                return false;
            }
            store.setThings(n);
            return true;
        }

        private boolean readScale() {
            int kind = readKind();
            if (kind == NONE) {
                return refuse(at);
            }
            int price = readNumber(0, MOST_PRICE);
            int lies = price == NONE ? NONE : readNumber(0, MOST_LIES);
            if (lies == NONE) {
                return false;
            }
            store.addScale(kind, price, lies);
            return true;
        }

        private int readKind() {
            skipBlanks();
            if (readWord("three")) {
                return THREE;
            }
            if (readWord("four")) {
                return FOUR;
            }
            return readWord("two") ? TWO : NONE;
        }

        private boolean readWeight() {
            int thing = readNumber(0, store.things - 1);
            int n = thing == NONE ? NONE : readNumber(0, MOST_WEIGHT);
            if (n == NONE) {
                return false;
            }
            store.weights[thing] = n;
            return true;
        }

        private boolean readNote() {
            int scale = readNumber(0, store.scales - 1);
            if (scale == NONE) {
                return false;
            }
            int pans = pansOf(store.kinds[scale]);
            int set = 0;
            for (int i = 0; i < pans; i++) {
                int thing = readThing(set, false);
                if (thing == NONE) {
                    return false;
                }
                set |= 1 << thing;
            }
            skipBlanks();
            if (!readWord("rose")) {
                return refuse(at);
            }
            int rose = readThing(set, true);
            if (rose == NONE) {
                return false;
            }
            store.addNote(scale, set, rose);
            return true;
        }

        /** A thing that lies on the scale already, or does not yet. */
        private int readThing(int set, boolean lies) {
            int thing = readNumber(0, store.things - 1);
            if (thing != NONE && holds(set, thing) != lies) {
                refuse(begin);
                return NONE;
            }
            return thing;
        }

        private int readNumber(int least, int most) {
            skipBlanks();
            begin = at;
            int value = 0;
            while (at < length && isDigit(tape.at(at))) {
                // Beyond three digits the value is of no use; it only must not go round.
                value = Math.min(value, MOST_WEIGHT) * 10 + tape.at(at) - DIGIT_0;
                at++;
            }
            int digits = at - begin;
            if (digits < 1 || digits > MOST_DIGITS || value < least || value > most) {
                refuse(begin);
                return NONE;
            }
            return value;
        }

        /** Goes behind the word that stands here, if it is this one. */
        private boolean readWord(String word) {
            int end = at;
            while (end < length && isLetter(tape.at(end))) {
                end++;
            }
            if (end - at != word.length()) {
                return false;
            }
            for (int i = 0; i < word.length(); i++) {
                if (tape.at(at + i) != word.charAt(i)) {
                    return false;
                }
            }
            at = end;
            return true;
        }

        private void skipBlanks() {
            while (at < length && tape.at(at) == BLANK) {
                at++;
            }
        }

        private boolean refuse(int place) {
            wrong = place;
            return false;
        }

        private static boolean isLetter(int b) {
            return b >= 'a' && b <= 'z';
        }

        private static boolean isDigit(int b) {
            return b >= DIGIT_0 && b <= DIGIT_0 + 9;
        }
    }

    /** All rows of so many things in order: the k-th is bit k wherever rows are told as bits. */
    private static final class AllRows {
        final int things;
        final int size;
        final int words;
        final long[] whole;
        private final int[] rows;
        /** Room for numbers of rows that are gone through. */
        private final int[] list;
        private final long[][] standings;
        private final long[][] heavier;
        private final Layings[] byKind = new Layings[KINDS];

        AllRows(int things) {
            int product = 1;
            for (int i = 2; i <= things; i++) {
                product *= i;
            }
            this.things = things;
            size = product;
            words = (product + 63) / 64;
            whole = new long[words];
            rows = new int[size];
            list = new int[size];
            standings = new long[things * things][words];
            heavier = new long[things * things][words];
            for (int kind = 0; kind < KINDS; kind++) {
                byKind[kind] = new Layings(things, kind, words);
            }
        }

        void fill() {
            int[] line = new int[things];
            for (int t = 0; t < things; t++) {
                line[t] = t;
            }
            for (int k = 0; k < size; k++) {
                put(k, line);
                turnToNext(line);
            }
            for (int a = 0; a < things; a++) {
                for (int b = 0; b < things; b++) {
                    fillHeavier(a, b);
                }
            }
            for (int kind = 0; kind < KINDS; kind++) {
                byKind[kind].fillSets();
                byKind[kind].fillRisings(this);
            }
        }

        private void put(int k, int[] line) {
            long bit = 1L << (k & 63);
            int packed = 0;
            for (int p = 0; p < things; p++) {
                packed |= line[p] << 3 * p;
                standings[line[p] * things + p][k >> 6] |= bit;
            }
            rows[k] = packed;
            whole[k >> 6] |= bit;
        }

        /** The next row in order; the last one stays. */
        private void turnToNext(int[] line) {
            int i = things - 2;
            while (i >= 0 && line[i] > line[i + 1]) {
                i--;
            }
            if (i < 0) {
                return;
            }
            int j = things - 1;
            while (j > i && line[j] < line[i]) {
                j--;
            }
            swap(line, i, j);
            for (int a = i + 1, b = things - 1; a < b; a++, b--) {
                swap(line, a, b);
            }
        }

        private static void swap(int[] line, int a, int b) {
            int one = line[a];
            line[a] = line[b];
            line[b] = one;
        }

        private void fillHeavier(int a, int b) {
            long[] bits = heavier[a * things + b];
            for (int w = 0; w < words; w++) {
                long below = 0;
                for (int p = 0; p < things; p++) {
                    bits[w] |= standings[a * things + p][w] & below;
                    below |= standings[b * things + p][w];
                }
            }
        }

        Layings layings(int kind) {
            return byKind[Math.max(0, Math.min(KINDS - 1, kind))];
        }

        /** Rows in which a thing stands in a place. */
        long[] standing(int thing, int place) {
            return standings[thing * things + place];
        }

        /** Rows in which the first is heavier than the second. */
        long[] heavierThan(int first, int second) {
            return heavier[first * things + second];
        }

        int packed(int number) {
            return number >= 0 && number < rows.length ? rows[number] : 0;
        }

        int numberOf(int packed) {
            int number = 0;
            int seen = 0;
            for (int p = 0; p < things; p++) {
                int t = MiddleScale.at(packed, p);
                int lesserLeft = t - Integer.bitCount(seen & (1 << t) - 1);
                number = number * (things - p) + lesserLeft;
                seen |= 1 << t;
            }
            return number;
        }

        int mirror(int packed) {
            int turned = 0;
            for (int p = 0; p < things; p++) {
                turned |= MiddleScale.at(packed, p) << 3 * (things - 1 - p);
            }
            return turned;
        }

        boolean areKnown(RowSet some) {
            if (some.size != 2) {
                return some.size == 1;
            }
            return mirror(packed(some.numberAt(0))) == packed(some.numberAt(1));
        }

        int mirrored(RowSet some) {
            int listed = some.list(list);
            int found = 0;
            for (int k = 0; k < listed; k++) {
                found += some.has(numberOf(mirror(packed(list[k])))) ? 1 : 0;
            }
            return found;
        }

        int placesOf(RowSet some, int thing) {
            int bits = 0;
            for (int p = 0; p < things; p++) {
                bits |= some.meets(standing(thing, p)) ? 1 << p : 0;
            }
            return bits;
        }

        /** Whether a thing stands in one place, or in two as far from the two ends. */
        boolean isPlaced(RowSet some, int thing) {
            int bits = placesOf(some, thing);
            boolean found = Integer.bitCount(bits) == 1;
            for (int p = 0; p < things / 2; p++) {
                found = found || bits == (1 << p | 1 << things - 1 - p);
            }
            return found;
        }

        /** Whether two things are first and last in some row, either way. */
        boolean mayEnd(RowSet some, int a, int b) {
            return some.meetsBoth(standing(a, 0), standing(b, things - 1))
                    || some.meetsBoth(standing(b, 0), standing(a, things - 1));
        }

        int fewestSwaps(RowSet some, int told) {
            int toldPlaces = 0;
            for (int p = 0; p < things; p++) {
                toldPlaces |= p << 3 * MiddleScale.at(told, p);
            }
            int listed = some.list(list);
            int fewest = NONE;
            for (int k = 0; k < listed; k++) {
                int swaps = swapsBetween(packed(list[k]), toldPlaces);
                fewest = fewest == NONE ? swaps : Math.min(fewest, swaps);
            }
            return fewest;
        }

        /** As many as pairs that stand the other way round. */
        private int swapsBetween(int packed, int toldPlaces) {
            int swaps = 0;
            for (int p = 0; p < things; p++) {
                int mine = MiddleScale.at(toldPlaces, MiddleScale.at(packed, p));
                for (int q = p + 1; q < things; q++) {
                    swaps += MiddleScale.at(toldPlaces, MiddleScale.at(packed, q)) < mine ? 1 : 0;
                }
            }
            return swaps;
        }
    }

    /** All sets of things for one kind of scale, in order, and by which rows each of a set rises. */
    private static final class Layings {
        final int pans;
        final int[] sets;
        int worst = 0;
        int spread = 0;
        private final int kind;
        private final int things;
        private final int[] numbers;
        private final long[][] risings;
        private final long[] never;

        Layings(int things, int kind, int words) {
            this.things = things;
            this.kind = kind;
            pans = pansOf(kind);
            int sized = 0;
            for (int set = 0; set < 1 << things; set++) {
                sized += Integer.bitCount(set) == pans ? 1 : 0;
            }
            sets = new int[sized];
            numbers = new int[1 << things];
            risings = new long[sized * pans][words];
            never = new long[words];
        }

        void fillSets() {
            Arrays.fill(numbers, NONE);
            int number = 0;
            // Thing 0 as the highest bit: then falling codes are sets in order.
            for (int code = (1 << things) - 1; code >= 0 && number < sets.length; code--) {
                if (Integer.bitCount(code) == pans) {
                    int set = turned(code);
                    sets[number] = set;
                    numbers[set] = number;
                    number++;
                }
            }
        }

        private int turned(int code) {
            int set = 0;
            for (int t = 0; t < things; t++) {
                set |= (code >> t & 1) << things - 1 - t;
            }
            return set;
        }

        void fillRisings(AllRows all) {
            int k = 0;
            for (int s = 0; s < sets.length; s++) {
                for (int t = 0; t < things && k < risings.length; t++) {
                    if (holds(sets[s], t)) {
                        fillRising(all, sets[s], t, risings[k]);
                        k++;
                    }
                }
            }
        }

        private void fillRising(AllRows all, int set, int thing, long[] bits) {
            for (int w = 0; w < bits.length; w++) {
                long one = 0;
                long more = 0;
                for (int t = 0; t < things; t++) {
                    if (t != thing && holds(set, t)) {
                        long above = all.heavierThan(t, thing)[w];
                        more |= one & above;
                        one |= above;
                    }
                }
                bits[w] = aboveRiser(kind) == 0 ? all.whole[w] & ~one : one & ~more;
            }
        }

        int indexOf(int set) {
            return set >= 0 && set < numbers.length ? numbers[set] : NONE;
        }

        int setAt(int number) {
            return number >= 0 && number < sets.length ? sets[number] : NONE;
        }

        /** Rows by which a thing of a set rises. */
        long[] rising(int set, int thing) {
            int number = indexOf(set);
            return number == NONE ? never : risingAt(number, Integer.bitCount(set & (1 << thing) - 1));
        }

        long[] risingAt(int number, int pan) {
            int k = number * pans + pan;
            return k >= 0 && k < risings.length ? risings[k] : never;
        }

        /** Finds worst and spread of a laying. */
        void measure(RowSet some, int number) {
            int rest = some.size;
            worst = 0;
            spread = 0;
            for (int pan = 0; pan < pans; pan++) {
                // What rises by no row told so far is the last one: it need not be counted.
                int rise = pan == pans - 1 ? rest : some.shared(risingAt(number, pan));
                rest -= rise;
                worst = Math.max(worst, rise);
                spread += rise * rise;
            }
        }

        /** The number of the set that is next, with its worst and spread; NONE without sets. */
        int best(RowSet some) {
            int found = NONE;
            int even = evenSpread(some.size);
            int leastWorst = 0;
            int leastSpread = 0;
            // No set behind one that parts evenly is better.
            for (int s = 0; s < sets.length && (found == NONE || leastSpread > even); s++) {
                measure(some, s);
                boolean better = worst < leastWorst || worst == leastWorst && spread < leastSpread;
                if (found == NONE || better) {
                    found = s;
                    leastWorst = worst;
                    leastSpread = spread;
                }
            }
            worst = leastWorst;
            spread = leastSpread;
            return found;
        }

        /** The spread of rows that are parted as evenly as can be. */
        private int evenSpread(int size) {
            int least = pans > 0 ? size / pans : size;
            int more = size - least * pans;
            return more * (least + 1) * (least + 1) + (pans - more) * least * least;
        }

        /** The number of the set that is next and is laid; NONE, if it is time to stop. */
        int parting(AllRows all, RowSet some) {
            if (some.size == 0 || all.areKnown(some)) {
                return NONE;
            }
            int found = best(some);
            return worst == some.size ? NONE : found;
        }

        /** Whether a laying leaves all rows together. */
        boolean partsNothing(RowSet some, int number) {
            boolean together = false;
            for (int pan = 0; pan < pans && !together; pan++) {
                together = some.isWithin(risingAt(number, pan));
            }
            return together;
        }
    }

    /** Some of all rows as bits; only the words that live hold any, and they are in rising order. */
    private static final class RowSet {
        int size = 0;
        private final long[] bits = new long[MOST_WORDS];
        private final int[] live = new int[MOST_WORDS];
        private int lives = 0;

        void clear() {
            for (int i = 0; i < lives; i++) {
                bits[live[i]] = 0;
            }
            size = 0;
            lives = 0;
        }

        void add(int word, long some) {
            if (some != 0 && word >= 0 && word < bits.length && lives < live.length) {
                bits[word] = some;
                live[lives] = word;
                lives++;
                size += Long.bitCount(some);
            }
        }

        void copy(RowSet other) {
            clear();
            for (int i = 0; i < other.lives; i++) {
                add(other.live[i], other.bits[other.live[i]]);
            }
        }

        void copyAll(long[] some) {
            clear();
            for (int w = 0; w < some.length; w++) {
                add(w, some[w]);
            }
        }

        /** Those of another set that are among some. */
        void take(RowSet other, long[] some) {
            clear();
            for (int i = 0; i < other.lives; i++) {
                int w = other.live[i];
                add(w, w < some.length ? other.bits[w] & some[w] : 0);
            }
        }

        void narrow(long[] some) {
            int had = lives;
            size = 0;
            lives = 0;
            for (int i = 0; i < had; i++) {
                int w = live[i];
                long rest = w < some.length ? bits[w] & some[w] : 0;
                bits[w] = 0;
                // What is written here was read before: there are never more words than were looked at.
                add(w, rest);
            }
        }

        int shared(long[] some) {
            int found = 0;
            for (int i = 0; i < lives; i++) {
                int w = live[i];
                found += w < some.length ? Long.bitCount(bits[w] & some[w]) : 0;
            }
            return found;
        }

        boolean meets(long[] some) {
            return meetsBoth(some, some);
        }

        boolean meetsBoth(long[] some, long[] others) {
            for (int i = 0; i < lives; i++) {
                int w = live[i];
                if (w < some.length && w < others.length && (bits[w] & some[w] & others[w]) != 0) {
                    return true;
                }
            }
            return false;
        }

        boolean isWithin(long[] some) {
            for (int i = 0; i < lives; i++) {
                int w = live[i];
                if (w >= some.length || (bits[w] & ~some[w]) != 0) {
                    return false;
                }
            }
            return true;
        }

        boolean has(int number) {
            int w = number >> 6;
            return w >= 0 && w < bits.length && (bits[w] >>> (number & 63) & 1) == 1;
        }

        /** Writes the numbers of the rows in order: how many. */
        int list(int[] into) {
            int found = 0;
            for (int i = 0; i < lives; i++) {
                for (int b = 0; b < 64 && found < into.length; b++) {
                    if ((bits[live[i]] >>> b & 1) == 1) {
                        into[found] = live[i] * 64 + b;
                        found++;
                    }
                }
            }
            return found;
        }

        /** The number of the k-th row among all; NONE without it. */
        int numberAt(int k) {
            int before = k;
            for (int i = 0; i < lives && before >= 0; i++) {
                long word = bits[live[i]];
                int here = Long.bitCount(word);
                if (before < here) {
                    return live[i] * 64 + bitAt(word, before);
                }
                before -= here;
            }
            return NONE;
        }

        private static int bitAt(long word, int k) {
            long rest = word;
            for (int i = 0; i < k; i++) {
                rest &= rest - 1;
            }
            return Long.bitCount((rest & -rest) - 1);
        }
    }

    /** Which rows fit the notes. */
    private static final class Fitting {
        /** By each note the rows that fit it. */
        private final long[][] risen = new long[MOST_NOTES][0];

        void aim(Store store, AllRows all) {
            for (int i = 0; i < store.notes; i++) {
                hadRisen(store, all, i, store.noteRose[i]);
            }
        }

        void hadRisen(Store store, AllRows all, int note, int thing) {
            risen[note] = all.layings(store.kindOfNote(note)).rising(store.noteSet[note], thing);
        }

        /** All rows that fit, but for one note that does not count. */
        void fit(Store store, AllRows all, int without, RowSet out) {
            out.clear();
            for (int w = 0; w < all.words; w++) {
                long fit = all.whole[w];
                for (int s = 0; s < store.scales; s++) {
                    fit &= borne(store, s, without, w);
                }
                out.add(w, fit);
            }
        }

        /** Rows of a word that no more notes of a scale miss than it may lie. */
        private long borne(Store store, int scale, int without, int w) {
            long one = 0;
            long two = 0;
            long three = 0;
            long four = 0;
            for (int i = 0; i < store.notes; i++) {
                if (store.noteScale[i] == scale && i != without && w < risen[i].length) {
                    long missed = ~risen[i][w];
                    four |= three & missed;
                    three |= two & missed;
                    two |= one & missed;
                    one |= missed;
                }
            }
            switch (store.lies[scale]) {
                case 0:
                    return ~one;
                case 1:
                    return ~two;
                case 2:
                    return ~three;
                default:
                    return ~four;
            }
        }

        int quarrelling(Store store) {
            int pairs = 0;
            for (int i = 0; i < store.notes; i++) {
                for (int j = i + 1; j < store.notes; j++) {
                    pairs += agree(risen[i], risen[j]) ? 0 : 1;
                }
            }
            return pairs;
        }

        private static boolean agree(long[] some, long[] others) {
            for (int w = 0; w < some.length && w < others.length; w++) {
                if ((some[w] & others[w]) != 0) {
                    return true;
                }
            }
            return false;
        }

        /** Bits of notes; 0, if all of them can be together. */
        int leastProof(Store store, AllRows all, RowSet[] levels) {
            levels[0].copyAll(all.whole);
            for (int i = 0; i < store.notes; i++) {
                levels[0].narrow(risen[i]);
            }
            if (levels[0].size > 0) {
                return 0;
            }
            levels[0].copyAll(all.whole);
            int found = 0;
            for (int need = 1; need <= store.notes && found == 0; need++) {
                found = proofOf(levels, 0, 0, need, store.notes);
            }
            return found;
        }

        /** So many more notes from one on that leave nothing of a level's rows; 0 without. */
        private int proofOf(RowSet[] levels, int level, int from, int need, int notes) {
            RowSet here = levels[level];
            for (int i = from; i <= notes - need; i++) {
                if (need == 1) {
                    if (!here.meets(risen[i])) {
                        return 1 << i;
                    }
                } else if (level + 1 < levels.length) {
                    levels[level + 1].take(here, risen[i]);
                    // A note that takes no row is in no least set.
                    boolean takes = levels[level + 1].size < here.size;
                    int rest = takes ? proofOf(levels, level + 1, i + 1, need - 1, notes) : 0;
                    if (rest != 0) {
                        return rest | 1 << i;
                    }
                }
            }
            return 0;
        }
    }

    /** All ways by next ones, however they come out. */
    private static final class Walk {
        int most = 0;
        int total = 0;
        boolean sure = true;

        void start() {
            most = 0;
            total = 0;
            sure = true;
        }

        /** Goes on from a level's rows; with a thing one stops, too, as soon as it is placed. */
        private void go(AllRows all, Layings sets, RowSet[] levels, int level, int thing) {
            RowSet here = levels[level];
            boolean placed = thing != NONE && all.isPlaced(here, thing);
            int number = placed ? NONE : sets.parting(all, here);
            if (number == NONE || level + 1 >= levels.length) {
                most = Math.max(most, level);
                total += level * here.size;
                sure = sure && (here.size == 0 || all.areKnown(here));
                return;
            }
            for (int pan = 0; pan < sets.pans; pan++) {
                levels[level + 1].take(here, sets.risingAt(number, pan));
                go(all, sets, levels, level + 1, thing);
            }
        }
    }

    /** The fewest layings in the worst case. */
    private static final class Learner {
        private int steps = 0;

        int leastLayings(AllRows all, Layings sets, RowSet rows, RowSet[] levels) {
            steps = 0;
            levels[0].copy(rows);
            for (int k = 0; k <= MOST_LAYINGS; k++) {
                if (canLearn(all, sets, levels, 0, k)) {
                    return k;
                }
                if (steps > MOST_STEPS) {
                    return SPENT;
                }
            }
            return NONE;
        }

        private boolean canLearn(AllRows all, Layings sets, RowSet[] levels, int level, int k) {
            RowSet here = levels[level];
            if (here.size == 0 || all.areKnown(here)) {
                return true;
            }
            if (k <= 0 || leastBound(here.size, sets.pans) > k || level + 1 >= levels.length) {
                return false;
            }
            for (int s = 0; s < sets.sets.length && steps <= MOST_STEPS; s++) {
                if (!sets.partsNothing(here, s)) {
                    steps++;
                    if (steps <= MOST_STEPS && isEnough(all, sets, levels, level, s, k)) {
                        return true;
                    }
                }
            }
            return false;
        }

        /** Whether the rows by which each one of a set rises can be learnt by k less 1. */
        private boolean isEnough(AllRows all, Layings sets, RowSet[] levels, int level, int number, int k) {
            boolean enough = true;
            for (int pan = 0; pan < sets.pans && enough; pan++) {
                levels[level + 1].take(levels[level], sets.risingAt(number, pan));
                enough = canLearn(all, sets, levels, level + 1, k - 1);
            }
            return enough;
        }
    }

    /** Sorts by thirds on hidden weights. */
    private static final class Sorter {
        final int[] line = new int[MOST_THINGS];
        int layings = 0;

        void sort(Store store) {
            layings = 0;
            int middle = lift(store, 0, 1, 2);
            line[0] = middle == 0 ? 1 : 0;
            line[1] = middle;
            line[2] = middle == 2 ? 1 : 2;
            for (int thing = 3; thing < store.things && thing < line.length; thing++) {
                int place = placeOf(store, thing);
                for (int p = thing; p > place; p--) {
                    line[p] = line[p - 1];
                }
                line[place] = thing;
            }
        }

        private int lift(Store store, int a, int b, int c) {
            layings++;
            return store.riser(THREE, 1 << a | 1 << b | 1 << c);
        }

        /** Where a thing belongs in the line of all lesser ones. */
        private int placeOf(Store store, int thing) {
            int low = 0;
            int high = thing;
            for (int turn = 0; turn < MOST_THINGS && low < high; turn++) {
                if (high == low + 1) {
                    int beside = Math.max(low, 1);
                    boolean between = lift(store, thing, line[beside - 1], line[beside]) == thing;
                    // Ahead of the line's first it does not rise, elsewhere behind its neighbour.
                    boolean ahead = low == 0 ? !between : between;
                    low = ahead ? low : high;
                    high = low;
                } else {
                    int third = (high - low - 2) / 3;
                    int i = low + third;
                    int j = high - 1 - third;
                    int rose = lift(store, thing, line[i], line[j]);
                    if (rose == line[i]) {
                        high = i;
                    } else if (rose == thing) {
                        low = i + 1;
                        high = j;
                    } else {
                        low = j + 1;
                    }
                }
            }
            return low;
        }
    }
}
