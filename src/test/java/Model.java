import java.util.ArrayList;
import java.util.Arrays;
import java.util.List;
import java.util.NoSuchElementException;

/** The document read word by word with plain lists and no thought of speed: what MiddleScale is compared with. */
final class Model {
    static final int NONE = -1;

    record Scale(int kind, int price, int lies) {
        int pans() {
            return new int[] {3, 4, 2}[kind];
        }
    }

    record Note(int scale, int set, int rose) {
    }

    /** All that an image keeps. */
    static final class State {
        int things = 3;
        int texts = 0;
        int[] weights = new int[7];
        List<Scale> scales = new ArrayList<>();
        List<Note> notes = new ArrayList<>();

        State copy() {
            State s = new State();
            s.things = things;
            s.texts = texts;
            s.weights = weights.clone();
            s.scales = new ArrayList<>(scales);
            s.notes = new ArrayList<>(notes);
            return s;
        }
    }

    private State x = new State();
    private State image = null;
    private int fault = NONE;
    private List<Integer> tape = new ArrayList<>();

    // ---- rows

    private static void addRows(List<int[]> to, int n, int[] begun, int placed) {
        if (placed == n) {
            to.add(begun.clone());
            return;
        }
        for (int t = 0; t < n; t++) {
            boolean there = false;
            for (int p = 0; p < placed; p++) {
                there |= begun[p] == t;
            }
            if (!there) {
                begun[placed] = t;
                addRows(to, n, begun, placed + 1);
            }
        }
    }

    private static List<int[]> allRows(int n) {
        List<int[]> all = new ArrayList<>();
        addRows(all, n, new int[n], 0);
        return all;
    }

    private static boolean in(int set, int t) {
        return t >= 0 && t < 31 && (set & (1 << t)) != 0;
    }

    /** Those on the scale from the lightest on; the riser counted from the heaviest. */
    private static int riseBy(int[] row, int kind, int set) {
        List<Integer> on = new ArrayList<>();
        for (int t : row) {
            if (in(set, t)) {
                on.add(t);
            }
        }
        return on.get(kind == 2 ? on.size() - 1 : on.size() - 2);
    }

    private boolean fitsNote(int[] row, State s, Note n) {
        return riseBy(row, s.scales.get(n.scale()).kind(), n.set()) == n.rose();
    }

    private boolean fitsAll(int[] row, State s) {
        for (int i = 0; i < s.scales.size(); i++) {
            int missed = 0;
            for (Note n : s.notes) {
                if (n.scale() == i && !fitsNote(row, s, n)) {
                    missed++;
                }
            }
            if (missed > s.scales.get(i).lies()) {
                return false;
            }
        }
        return true;
    }

    private List<int[]> left(State s) {
        List<int[]> found = new ArrayList<>();
        for (int[] row : allRows(s.things)) {
            if (fitsAll(row, s)) {
                found.add(row);
            }
        }
        return found;
    }

    private List<int[]> left() {
        return left(x);
    }

    private static int[] mirror(int[] row) {
        int[] m = new int[row.length];
        for (int i = 0; i < row.length; i++) {
            m[i] = row[row.length - 1 - i];
        }
        return m;
    }

    private static boolean isKnown(List<int[]> rows) {
        return rows.size() == 1 || rows.size() == 2 && Arrays.equals(rows.get(0), mirror(rows.get(1)));
    }

    private static int placeIn(int[] row, int t) {
        for (int p = 0; p < row.length; p++) {
            if (row[p] == t) {
                return p;
            }
        }
        return NONE;
    }

    private int[] byWeights() {
        List<Integer> order = new ArrayList<>();
        for (int t = 0; t < x.things; t++) {
            order.add(t);
        }
        order.sort((a, b) -> x.weights[a] != x.weights[b] ? x.weights[a] - x.weights[b] : a - b);
        int[] row = new int[x.things];
        for (int p = 0; p < row.length; p++) {
            row[p] = order.get(p);
        }
        return row;
    }

    // ---- checks

    private void thingIs(int t) {
        if (t < 0 || t >= x.things) {
            throw new IndexOutOfBoundsException();
        }
    }

    private void scaleIs(int s) {
        if (s < 0 || s >= x.scales.size()) {
            throw new IndexOutOfBoundsException();
        }
    }

    private void noteIs(int n) {
        if (n < 0 || n >= x.notes.size()) {
            throw new IndexOutOfBoundsException();
        }
    }

    private void setIs(int set, int size) {
        int found = 0;
        for (int t = 0; t < 32; t++) {
            if ((set >>> t & 1) == 1) {
                found++;
                if (t >= x.things) {
                    throw new IllegalArgumentException();
                }
            }
        }
        if (found != size) {
            throw new IllegalArgumentException();
        }
    }

    private List<Integer> useTape() {
        List<Integer> had = tape;
        tape = new ArrayList<>();
        return had;
    }

    private int[] rowOf(List<Integer> bytes) {
        int[] row = new int[bytes.size()];
        for (int i = 0; i < row.length; i++) {
            row[i] = bytes.get(i) - 48;
        }
        for (int[] r : allRows(x.things)) {
            if (Arrays.equals(r, row)) {
                return row;
            }
        }
        throw new IllegalArgumentException();
    }

    // ---- promises 2 to 5: the tape and texts

    int feed(int a, int b, int c, int d, int e) {
        if (tape.size() > 380) {
            return NONE;
        }
        for (int n : new int[] {a, b, c, d, e}) {
            for (int k = 3; k >= 0; k--) {
                tape.add((n >> (8 * k)) & 0xff);
            }
        }
        return tape.size();
    }

    boolean end(int n) {
        if (n < 0 || n > tape.size()) {
            return false;
        }
        tape = new ArrayList<>(tape.subList(0, n));
        return true;
    }

    /** A word, a number, or one sign; the last token is empty and stands at the text's length. */
    record Token(int at, String text) {
        boolean word() {
            return !text.isEmpty() && Character.isLetter(text.charAt(0));
        }

        boolean number() {
            return !text.isEmpty() && text.charAt(0) >= '0' && text.charAt(0) <= '9';
        }
    }

    private static final class Wrong extends Exception {
        private static final long serialVersionUID = 1L;
        final int at;

        Wrong(Token t) {
            at = t.at();
        }
    }

    private List<Token> tokens = new ArrayList<>();
    private int token = 0;

    private static List<Token> cut(List<Integer> bytes) {
        StringBuilder b = new StringBuilder();
        for (int n : bytes) {
            b.append(n >= 'a' && n <= 'z' || n >= '0' && n <= '9' || n == ' ' || n == ';' ? (char) n : '?');
        }
        List<Token> all = new ArrayList<>();
        java.util.regex.Matcher m = java.util.regex.Pattern.compile("[a-z]+|[0-9]+|[;?]").matcher(b);
        while (m.find()) {
            all.add(new Token(m.start(), m.group()));
        }
        all.add(new Token(b.length(), ""));
        return all;
    }

    private Token take() {
        return tokens.get(token++);
    }

    private String wordOf(String... may) throws Wrong {
        Token t = take();
        if (!Arrays.asList(may).contains(t.text())) {
            throw new Wrong(t);
        }
        return t.text();
    }

    private int numberOf(int least, int most) throws Wrong {
        Token t = take();
        if (!t.number() || t.text().length() > 3) {
            throw new Wrong(t);
        }
        int n = Integer.parseInt(t.text());
        if (n < least || n > most) {
            throw new Wrong(t);
        }
        return n;
    }

    private int thingOf(State s, List<Integer> on, boolean must) throws Wrong {
        Token t = tokens.get(token);
        int n = numberOf(0, s.things - 1);
        if (on.contains(n) != must) {
            throw new Wrong(t);
        }
        return n;
    }

    private void line(State s, int number) throws Wrong {
        Token first = tokens.get(token);
        String w = wordOf("things", "scale", "weight", "note");
        boolean room = w.equals("things") ? s.notes.isEmpty()
            : w.equals("scale") ? s.scales.size() < 4 : w.equals("note") ? s.notes.size() < 16 : true;
        if (number > 12 || !room) {
            throw new Wrong(first);
        }
        if (w.equals("things")) {
            grow(s, numberOf(3, 7));
        } else if (w.equals("scale")) {
            int kind = Arrays.asList("three", "four", "two").indexOf(wordOf("three", "four", "two"));
            int price = numberOf(0, 99);
            s.scales.add(new Scale(kind, price, numberOf(0, 3)));
        } else if (w.equals("weight")) {
            int t = numberOf(0, s.things - 1);
            s.weights[t] = numberOf(0, 999);
        } else {
            int scale = numberOf(0, s.scales.size() - 1);
            List<Integer> on = new ArrayList<>();
            int set = 0;
            while (on.size() < s.scales.get(scale).pans()) {
                on.add(thingOf(s, on, false));
                set |= 1 << on.get(on.size() - 1);
            }
            wordOf("rose");
            s.notes.add(new Note(scale, set, thingOf(s, on, true)));
        }
    }

    private void readAll(State s) throws Wrong {
        if (tokens.size() == 1) {
            return;
        }
        for (int number = 1;; number++) {
            line(s, number);
            if (tokens.get(token).text().isEmpty()) {
                return;
            }
            wordOf(";");
        }
    }

    int shed() {
        tokens = cut(useTape());
        token = 0;
        State s = x.copy();
        fault = NONE;
        try {
            readAll(s);
        } catch (Wrong w) {
            fault = w.at;
        }
        if (fault != NONE) {
            throw new IllegalArgumentException();
        }
        if (x.texts == 8) {
            throw new UnsupportedOperationException();
        }
        s.texts++;
        x = s;
        return x.texts;
    }

    int fault() {
        return fault;
    }

    // ---- promises 6 to 12

    private static void grow(State s, int n) {
        s.things = n;
        for (int t = 0; t < 7; t++) {
            s.weights[t] = t < n ? s.weights[t] : 0;
        }
    }

    void things(int n) {
        if (n < 3 || n > 7) {
            throw new IllegalArgumentException();
        }
        if (!x.notes.isEmpty()) {
            throw new IllegalStateException();
        }
        grow(x, n);
    }

    int scale(int kind, int price, int lies) {
        if (kind < 0 || kind > 2 || price < 0 || price > 99 || lies < 0 || lies > 3) {
            throw new IllegalArgumentException();
        }
        if (x.scales.size() == 4) {
            throw new UnsupportedOperationException();
        }
        x.scales.add(new Scale(kind, price, lies));
        return x.scales.size() - 1;
    }

    int weight(int thing, int n) {
        thingIs(thing);
        if (n < 0 || n > 999) {
            throw new IllegalArgumentException();
        }
        int was = x.weights[thing];
        x.weights[thing] = n;
        return was;
    }

    int rises(int scale, int set) {
        scaleIs(scale);
        setIs(set, x.scales.get(scale).pans());
        return riseBy(byWeights(), x.scales.get(scale).kind(), set);
    }

    int note(int scale, int set, int rose) {
        scaleIs(scale);
        setIs(set, x.scales.get(scale).pans());
        if (!in(set, rose)) {
            throw new IllegalArgumentException();
        }
        if (x.notes.size() == 16) {
            throw new UnsupportedOperationException();
        }
        x.notes.add(new Note(scale, set, rose));
        return x.notes.size() - 1;
    }

    int look(int note, int what) {
        noteIs(note);
        Note n = x.notes.get(note);
        if (what < 0 || what > 2) {
            throw new NoSuchElementException();
        }
        return what == 0 ? n.scale() : what == 1 ? n.set() : n.rose();
    }

    int drop(int note) {
        noteIs(note);
        x.notes.remove(note);
        return x.notes.size();
    }

    // ---- promises 13 to 22: rows left

    int rows() {
        return left().size();
    }

    int row(int k, int place) {
        thingIs(place);
        List<int[]> rows = left();
        return k < 0 || k >= rows.size() ? NONE : rows.get(k)[place];
    }

    boolean fits() {
        return fitsAll(rowOf(useTape()), x);
    }

    int may(int set) {
        setIs(set, 3);
        int bits = 0;
        for (int[] row : left()) {
            bits |= 1 << riseBy(row, 0, set);
        }
        return bits;
    }

    int heavier(int first, int second) {
        thingIs(first);
        thingIs(second);
        if (first == second) {
            throw new IllegalArgumentException();
        }
        boolean all = true;
        boolean none = true;
        List<int[]> rows = left();
        for (int[] row : rows) {
            boolean above = placeIn(row, first) > placeIn(row, second);
            all &= above;
            none &= !above;
        }
        return rows.isEmpty() ? NONE : all ? 1 : none ? 0 : NONE;
    }

    private static int placesIn(List<int[]> rows, int thing) {
        int bits = 0;
        for (int[] row : rows) {
            bits |= 1 << placeIn(row, thing);
        }
        return bits;
    }

    int places(int thing) {
        thingIs(thing);
        return placesIn(left(), thing);
    }

    private List<Integer> pairs() {
        java.util.TreeSet<Integer> found = new java.util.TreeSet<>();
        for (int[] row : left()) {
            int a = row[0];
            int b = row[row.length - 1];
            found.add(10 * Math.min(a, b) + Math.max(a, b));
        }
        return new ArrayList<>(found);
    }

    int ends() {
        return pairs().size();
    }

    int goose() {
        List<int[]> rows = left();
        int bits = rows.isEmpty() ? 0 : (1 << x.things) - 1;
        for (int[] row : rows) {
            bits &= 1 << row[0] | 1 << row[row.length - 1];
        }
        return bits;
    }

    int centre() {
        int bits = 0;
        for (int[] row : left()) {
            bits |= 1 << row[x.things / 2];
        }
        return bits;
    }

    boolean known() {
        return isKnown(left());
    }

    // ---- promises 23 to 28: notes against notes

    private boolean together(int noteBits) {
        for (int[] row : allRows(x.things)) {
            boolean all = true;
            for (int i = 0; i < x.notes.size(); i++) {
                all &= !in(noteBits, i) || fitsNote(row, x, x.notes.get(i));
            }
            if (all) {
                return true;
            }
        }
        return false;
    }

    int quarrels() {
        int found = 0;
        for (int i = 0; i < x.notes.size(); i++) {
            for (int j = 0; j < i; j++) {
                found += together(1 << i | 1 << j) ? 0 : 1;
            }
        }
        return found;
    }

    private int[] numbersIn(int bits) {
        int[] found = new int[Integer.bitCount(bits)];
        int k = 0;
        for (int i = 0; i < 16; i++) {
            if (in(bits, i)) {
                found[k++] = i;
            }
        }
        return found;
    }

    int proof() {
        int best = 0;
        java.util.Set<Integer> fitted = new java.util.HashSet<>();
        for (int[] row : allRows(x.things)) {
            int bits = 0;
            for (int i = 0; i < x.notes.size(); i++) {
                bits |= fitsNote(row, x, x.notes.get(i)) ? 1 << i : 0;
            }
            fitted.add(bits);
        }
        for (int bits = 1; bits < 1 << x.notes.size(); bits++) {
            boolean can = false;
            for (int f : fitted) {
                can |= (bits & ~f) == 0;
            }
            if (!can && (best == 0 || before(numbersIn(bits), numbersIn(best)))) {
                best = bits;
            }
        }
        return best;
    }

    private static boolean before(int[] a, int[] b) {
        return a.length != b.length ? a.length < b.length : Arrays.compare(a, b) < 0;
    }

    int wrongly() {
        int bits = 0;
        for (int i = 0; i < x.notes.size(); i++) {
            State s = x.copy();
            s.notes.remove(i);
            bits |= left(s).isEmpty() ? 0 : 1 << i;
        }
        return bits;
    }

    int mends(int note) {
        noteIs(note);
        int bits = 0;
        Note n = x.notes.get(note);
        for (int t = 0; t < x.things; t++) {
            if (in(n.set(), t) && t != n.rose()) {
                State s = x.copy();
                s.notes.set(note, new Note(n.scale(), n.set(), t));
                bits |= left(s).isEmpty() ? 0 : 1 << t;
            }
        }
        return bits;
    }

    /** Neighbours are really changed, as a sort by neighbours does. */
    int nearly() {
        int[] told = rowOf(useTape());
        int best = NONE;
        for (int[] row : left()) {
            int[] now = told.clone();
            int swaps = 0;
            for (int p = 0; p < row.length; p++) {
                for (int q = placeIn(now, row[p]); q > p; q--) {
                    int one = now[q];
                    now[q] = now[q - 1];
                    now[q - 1] = one;
                    swaps++;
                }
            }
            best = best == NONE ? swaps : Math.min(best, swaps);
        }
        return best;
    }

    int votes(int set) {
        setIs(set, 3);
        int[] times = new int[7];
        for (Note n : x.notes) {
            if (n.set() == set && x.scales.get(n.scale()).kind() == 0) {
                times[n.rose()]++;
            }
        }
        int most = Arrays.stream(times).max().getAsInt();
        int found = NONE;
        int alike = 0;
        for (int t = 0; t < 7; t++) {
            if (times[t] == most && most > 0) {
                found = t;
                alike++;
            }
        }
        return alike == 1 ? found : NONE;
    }

    // ---- promises 29 to 33: layings

    private static List<int[]> by(List<int[]> rows, int kind, int set, int thing) {
        List<int[]> found = new ArrayList<>();
        for (int[] row : rows) {
            if (riseBy(row, kind, set) == thing) {
                found.add(row);
            }
        }
        return found;
    }

    private int worst(List<int[]> rows, int kind, int set) {
        int most = 0;
        for (int t = 0; t < x.things; t++) {
            most = Math.max(most, in(set, t) ? by(rows, kind, set, t).size() : 0);
        }
        return most;
    }

    private int spread(List<int[]> rows, int kind, int set) {
        int sum = 0;
        for (int t = 0; t < x.things; t++) {
            int n = in(set, t) ? by(rows, kind, set, t).size() : 0;
            sum += n * n;
        }
        return sum;
    }

    private List<Integer> sets(int pans) {
        List<Integer> found = new ArrayList<>();
        for (int set = 0; set < 1 << x.things; set++) {
            if (Integer.bitCount(set) == pans) {
                found.add(set);
            }
        }
        found.sort((a, b) -> Arrays.compare(numbersIn(a), numbersIn(b)));
        return found;
    }

    int laying(int scale, int set, boolean spread) {
        scaleIs(scale);
        Scale s = x.scales.get(scale);
        setIs(set, s.pans());
        return spread ? spread(left(), s.kind(), set) : worst(left(), s.kind(), set);
    }

    private int nextOf(List<int[]> rows, Scale s) {
        int best = NONE;
        int bestWorst = 0;
        int bestSpread = 0;
        for (int set : sets(s.pans())) {
            int w = worst(rows, s.kind(), set);
            int q = spread(rows, s.kind(), set);
            if (best == NONE || w < bestWorst || w == bestWorst && q < bestSpread) {
                best = set;
                bestWorst = w;
                bestSpread = q;
            }
        }
        return best;
    }

    int next(int scale) {
        scaleIs(scale);
        return nextOf(left(), x.scales.get(scale));
    }

    private int steps = 0;

    private boolean learnt(List<int[]> rows, Scale s, int k) {
        if (rows.isEmpty() || isKnown(rows)) {
            return true;
        }
        if (k <= 0 || rows.size() > 2 * Math.pow(s.pans(), k)) {
            return false;
        }
        for (int set : sets(s.pans())) {
            if (worst(rows, s.kind(), set) == rows.size()) {
                continue;
            }
            if (++steps > 4000) {
                return false;
            }
            boolean all = true;
            for (int t = 0; t < x.things && all; t++) {
                all = !in(set, t) || learnt(by(rows, s.kind(), set, t), s, k - 1);
            }
            if (all || steps > 4000) {
                return all;
            }
        }
        return false;
    }

    int fewest(int scale) {
        scaleIs(scale);
        steps = 0;
        for (int k = 0; k <= 8; k++) {
            if (learnt(left(), x.scales.get(scale), k)) {
                return k;
            }
            if (steps > 4000) {
                return -2;
            }
        }
        return NONE;
    }

    int bound(int scale) {
        scaleIs(scale);
        List<int[]> rows = left();
        int k = 0;
        while (!rows.isEmpty() && !isKnown(rows) && rows.size() > 2 * Math.pow(x.scales.get(scale).pans(), k)) {
            k++;
        }
        return k;
    }

    /** NEXT, if it is laid: NONE at the end of a way. */
    private int laidOf(List<int[]> rows, Scale s) {
        if (rows.isEmpty() || isKnown(rows)) {
            return NONE;
        }
        int set = nextOf(rows, s);
        return set == NONE || worst(rows, s.kind(), set) == rows.size() ? NONE : set;
    }

    /** The most layings to the ends of all ways; what the ends are is added to the list. */
    private int ways(List<int[]> rows, Scale s, int depth, int thing, List<int[]> ends) {
        int set = laidOf(rows, s);
        if (thing != NONE) {
            int places = placesIn(rows, thing);
            int lowest = Integer.numberOfTrailingZeros(places);
            int highest = 31 - Integer.numberOfLeadingZeros(places);
            boolean two = Integer.bitCount(places) == 2 && lowest == x.things - 1 - highest;
            set = Integer.bitCount(places) == 1 || two ? NONE : set;
        }
        if (set == NONE) {
            ends.add(new int[] {depth, rows.size(), rows.isEmpty() || isKnown(rows) ? 1 : 0});
            return depth;
        }
        int most = 0;
        for (int t = 0; t < x.things; t++) {
            if (in(set, t)) {
                most = Math.max(most, ways(by(rows, s.kind(), set, t), s, depth + 1, thing, ends));
            }
        }
        return most;
    }

    int byNext(int scale) {
        scaleIs(scale);
        return ways(left(), x.scales.get(scale), 0, NONE, new ArrayList<>());
    }

    // ---- promises 34 to 50

    boolean wants(int want, int thing) {
        List<int[]> rows = left();
        if (want == 3) {
            thingIs(thing);
            int ends = 0;
            for (int[] row : rows) {
                ends += row[0] == thing || row[row.length - 1] == thing ? 1 : 0;
            }
            return !rows.isEmpty() && (ends == 0 || ends == rows.size());
        }
        if (want < 0 || want > 3) {
            throw new NoSuchElementException();
        }
        return want == 0 ? known() : want == 1 ? Integer.bitCount(centre()) == 1 : pairs().size() == 1;
    }

    int plain(int first, int second) {
        thingIs(first);
        thingIs(second);
        if (first == second) {
            throw new IllegalArgumentException();
        }
        return left().size() - worst(left(), 2, 1 << first | 1 << second);
    }

    int sorted(int place) {
        if (place != NONE) {
            thingIs(place);
        }
        int[] true_ = byWeights();
        List<Integer> row = new ArrayList<>();
        int rose = riseBy(true_, 0, 7);
        for (int t = 0; t < 3; t++) {
            if (t != rose) {
                row.add(t);
            }
        }
        row.add(1, rose);
        int layings = 1;
        for (int it = 3; it < x.things; it++) {
            int low = 0;
            int high = it;
            while (low < high) {
                int i;
                int j;
                int third = Math.floorDiv(high - low - 2, 3);
                if (high == low + 1) {
                    i = low == 0 ? 0 : low - 1;
                    j = low == 0 ? 1 : low;
                } else {
                    i = low + third;
                    j = high - 1 - third;
                }
                rose = riseBy(true_, 0, 1 << it | 1 << row.get(i) | 1 << row.get(j));
                layings++;
                if (high == low + 1) {
                    if (low == 0) {
                        if (rose == it) {
                            low = 1;
                        } else {
                            high = 0;
                        }
                    } else if (rose == it) {
                        high = low;
                    } else {
                        low = high;
                    }
                } else if (rose == it) {
                    low = i + 1;
                    high = j;
                } else if (rose == row.get(i)) {
                    high = i;
                } else {
                    low = j + 1;
                }
            }
            row.add(low, it);
        }
        return place == NONE ? layings : row.get(place);
    }

    int grown(int thing) {
        thingIs(thing);
        int had = x.notes.size();
        x.notes.removeIf(n -> in(n.set(), thing));
        return had - x.notes.size();
    }

    int played(int scale, int wrong, int seed, int what) {
        scaleIs(scale);
        if (wrong < 0 || wrong > 99) {
            throw new IllegalArgumentException();
        }
        if (what < 0 || what > 2) {
            throw new NoSuchElementException();
        }
        Scale s = x.scales.get(scale);
        List<int[]> rows = left();
        int layings = 0;
        for (int set = laidOf(rows, s); set != NONE; set = laidOf(rows, s)) {
            seed = seed * 1103515245 + 12345;
            int[] on = numbersIn(set);
            int rose = riseBy(byWeights(), s.kind(), set);
            if ((seed >> 16 & 32767) % 100 < wrong) {
                int k = Arrays.binarySearch(on, rose);
                rose = on[(k + 1) % on.length];
            }
            rows = by(rows, s.kind(), set, rose);
            layings++;
        }
        boolean there = false;
        for (int[] row : rows) {
            there |= Arrays.equals(row, byWeights());
        }
        return what == 0 ? layings : what == 1 ? rows.size() : there ? 1 : 0;
    }

    int sures(boolean without) {
        int found = 0;
        for (int set : sets(3)) {
            boolean noted = false;
            for (Note n : x.notes) {
                noted |= n.set() == set && x.scales.get(n.scale()).kind() == 0;
            }
            found += Integer.bitCount(may(set)) == 1 && !(without && noted) ? 1 : 0;
        }
        return found;
    }

    int pair(int k) {
        List<Integer> pairs = pairs();
        return k < 0 || k >= pairs.size() ? NONE : pairs.get(k);
    }

    int mean(int scale) {
        scaleIs(scale);
        List<int[]> ends = new ArrayList<>();
        ways(left(), x.scales.get(scale), 0, NONE, ends);
        return ends.stream().mapToInt(e -> e[0] * e[1]).sum();
    }

    int cheapest(boolean coin) {
        int best = NONE;
        int least = NONE;
        for (int i = x.scales.size() - 1; i >= 0; i--) {
            List<int[]> ends = new ArrayList<>();
            int cost = x.scales.get(i).price() * ways(left(), x.scales.get(i), 0, NONE, ends);
            if (ends.stream().allMatch(e -> e[2] == 1) && (best == NONE || cost <= least)) {
                best = i;
                least = cost;
            }
        }
        return coin ? least : best;
    }

    int where(int thing, int scale) {
        thingIs(thing);
        scaleIs(scale);
        return ways(left(), x.scales.get(scale), 0, thing, new ArrayList<>());
    }

    int tree(int scale, boolean set) {
        List<Integer> way = useTape();
        scaleIs(scale);
        Scale s = x.scales.get(scale);
        List<int[]> rows = left();
        for (int b : way) {
            int laid = laidOf(rows, s);
            if (laid == NONE || b < 48 || b > 54 || !in(laid, b - 48)) {
                throw new IllegalArgumentException();
            }
            rows = by(rows, s.kind(), laid, b - 48);
        }
        return set ? laidOf(rows, s) : rows.size();
    }

    int needless() {
        int bits = 0;
        for (int i = 0; i < x.notes.size(); i++) {
            State s = x.copy();
            s.notes.remove(i);
            List<int[]> a = left(s);
            List<int[]> b = left();
            boolean same = a.size() == b.size();
            for (int k = 0; same && k < a.size(); k++) {
                same = Arrays.equals(a.get(k), b.get(k));
            }
            bits |= same ? 1 << i : 0;
        }
        return bits;
    }

    int stands(int thing, boolean below) {
        thingIs(thing);
        int sum = 0;
        List<int[]> rows = left();
        for (int[] row : rows) {
            sum += placeIn(row, thing);
        }
        if (rows.isEmpty()) {
            return NONE;
        }
        int part = java.math.BigInteger.valueOf(sum).gcd(java.math.BigInteger.valueOf(rows.size())).intValue();
        return (below ? rows.size() : sum) / part;
    }

    int laid(int thing, boolean rose) {
        thingIs(thing);
        return (int) x.notes.stream().filter(n -> rose ? n.rose() == thing : in(n.set(), thing)).count();
    }

    void image() {
        image = x.copy();
    }

    boolean back() {
        if (image == null) {
            return false;
        }
        x = image.copy();
        return true;
    }

    int count(int what) {
        switch (what) {
            case 0:
                return x.things;
            case 1:
                return x.scales.size();
            case 2:
                return x.notes.size();
            case 3:
                return x.texts;
            case 4:
                return x.notes.stream().mapToInt(n -> x.scales.get(n.scale()).price()).sum();
            case 5:
                return (int) left().stream().filter(r -> fitsAll(mirror(r), x)).count();
            case 6:
                return (int) x.notes.stream().filter(n -> !fitsNote(byWeights(), x, n)).count();
            default:
                return NONE;
        }
    }
}
