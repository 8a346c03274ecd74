/** What tests of the document's boundary sentences share: a sentence is told, then what must hold for it. */
abstract class Boundaries extends Sheds {
    /** Makes a shed anew for each call that is looked at, so that no object has more than 512 calls. */
    interface Maker {
        MiddleScale make();
    }

    /** A call on a shed. */
    interface On {
        Object call(MiddleScale x);
    }

    private static final String KEPT = "weight 0 77";

    private final Due due;
    private final Book book;

    Boundaries(Due due, Book book) {
        this.due = due;
        this.book = book;
    }

    abstract void look();

    final void says(int promise, String sentence) {
        book.says(promise, sentence);
    }

    final void is(String call, Object got, Object want) {
        due.is(call, got, want);
    }

    /** The call throws, and changes nothing, not even the tape. */
    final void refuses(String call, Class<? extends RuntimeException> want, Maker maker, On made) {
        MiddleScale x = maker.make();
        tell(x, KEPT);
        String before = state(x);
        int fault = x.fault();
        due.throwsIt(call, want, () -> made.call(x));
        is(call + " changes nothing", state(x), before);
        is("fault() behind " + call, x.fault(), fault);
        is("the tape behind " + call, tapeLength(x), KEPT.length());
        if (x.count(3) < 8) {
            x.shed();
            is("what is on the tape behind " + call, x.weight(0, 0), 77);
        }
    }

    /** The call throws and has used the tape up; nothing else has changed. */
    final void refusesTape(String call, Class<? extends RuntimeException> want, Maker maker, String tape, On made) {
        MiddleScale x = maker.make();
        String before = state(x);
        int fault = x.fault();
        tell(x, tape);
        due.throwsIt(call, want, () -> made.call(x));
        is("the tape behind " + call, tapeLength(x), 0);
        is(call + " changes nothing else", state(x), before);
        is("fault() behind " + call, x.fault(), fault);
    }

    /** The text is wrong at a byte; the tape is used up, and nothing of the text stays. */
    final void wrongText(MiddleScale x, String text, int at) {
        tell(x, text);
        wrongTape(x, "shed of '" + text + "'", at);
    }

    /** The text that is on the tape is wrong at a byte. */
    final void wrongTape(MiddleScale x, String call, int at) {
        String before = state(x);
        due.throwsIt(call, ILLEGAL, x::shed);
        is("fault() behind " + call, x.fault(), at);
        is("the tape behind " + call, tapeLength(x), 0);
        is("what stays of " + call, state(x), before);
    }

    /** The text is right: one text more. */
    final MiddleScale rightText(MiddleScale x, String text) {
        int texts = x.count(3);
        is("shed of '" + text + "'", shedOrMinus(x, text), texts + 1);
        is("fault() behind '" + text + "'", x.fault(), -1);
        is("the tape behind '" + text + "'", tapeLength(x), 0);
        is("texts behind '" + text + "'", x.count(3), texts + 1);
        return x;
    }

    private static int shedOrMinus(MiddleScale x, String text) {
        try {
            return read(x, text);
        } catch (RuntimeException e) {
            return -9;
        }
    }

    /** Calls with each of some numbers are refused. */
    final void refusesAll(String call, Class<? extends RuntimeException> want, int[] numbers, Maker maker, OnNumber made) {
        for (int n : numbers) {
            refuses(call + " of " + n, want, maker, x -> made.call(x, n));
        }
    }

    /** A call on a shed with a number. */
    interface OnNumber {
        Object call(MiddleScale x, int n);
    }

    /** How many bytes are on the tape, which stays as it is; beyond 380 it cannot be told so. */
    static int tapeLength(MiddleScale x) {
        int length = x.feed(0, 0, 0, 0, 0) - 20;
        x.end(length);
        return length;
    }

    /** All that can be asked of what is kept, but for the tape and the fault. */
    static String state(MiddleScale x) {
        StringBuilder b = new StringBuilder();
        for (int what = 0; what <= 6; what++) {
            b.append(x.count(what)).append(' ');
        }
        for (int t = 0; t < x.count(0); t++) {
            int weight = x.weight(t, 0);
            x.weight(t, weight);
            b.append(" w").append(weight);
        }
        for (int i = 0; i < x.count(2); i++) {
            b.append(" n").append(x.look(i, 0)).append(',').append(x.look(i, 1)).append(',').append(x.look(i, 2));
        }
        b.append(" rows ").append(x.rows());
        // The scales themselves are seen by what is laid on them and by what it costs.
        b.append(" cheapest ").append(x.cheapest(false)).append(' ').append(x.cheapest(true));
        for (int s = 0; s < x.count(1); s++) {
            b.append(" s").append(x.next(s)).append(',').append(x.bound(s));
        }
        return b.toString();
    }
}
