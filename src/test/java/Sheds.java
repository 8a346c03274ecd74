import java.nio.ByteBuffer;
import java.nio.IntBuffer;
import java.nio.charset.StandardCharsets;
import java.util.Arrays;
import java.util.NoSuchElementException;
import java.util.stream.IntStream;

/** Sheds that tests begin with, and how their tapes are filled. */
abstract class Sheds {
    static final Class<IllegalArgumentException> ILLEGAL = IllegalArgumentException.class;
    static final Class<IllegalStateException> STATE = IllegalStateException.class;
    static final Class<IndexOutOfBoundsException> OUTSIDE = IndexOutOfBoundsException.class;
    static final Class<UnsupportedOperationException> FULL = UnsupportedOperationException.class;
    static final Class<NoSuchElementException> ANOTHER = NoSuchElementException.class;
    static final int LEAST = Integer.MIN_VALUE;
    static final int MOST = Integer.MAX_VALUE;

    /** Scales 0 three, 1 four and 2 two, at 5, 7 and 3, that do not lie. */
    static MiddleScale of(int things) {
        MiddleScale x = new MiddleScale();
        x.things(things);
        x.scale(0, 5, 0);
        x.scale(1, 7, 0);
        x.scale(2, 3, 0);
        return x;
    }

    /** With notes: a scale, a set, what rose, and so on. */
    static MiddleScale noted(int things, int... notes) {
        MiddleScale x = of(things);
        for (int i = 0; i + 2 < notes.length; i += 3) {
            x.note(notes[i], notes[i + 1], notes[i + 2]);
        }
        return x;
    }

    /** One row is left: 0 1 2 and so on. */
    static MiddleScale oneRow(int things) {
        MiddleScale x = of(things);
        for (int t = 0; t + 1 < things; t++) {
            x.note(2, 3 << t, t + 1);
        }
        return x;
    }

    /** Two rows are left: 0 1 2 and so on, and its mirror. */
    static MiddleScale twoMirrors(int things) {
        MiddleScale x = of(things);
        for (int t = 0; t + 2 < things; t++) {
            x.note(0, 7 << t, t + 1);
        }
        return x;
    }

    /** Two rows are left that are no mirrors: the last two things may stand either way. */
    static MiddleScale twoOthers(int things) {
        MiddleScale x = of(things);
        for (int t = 0; t + 2 < things; t++) {
            x.note(2, 3 << t, t + 1);
        }
        x.note(2, 1 << things - 3 | 1 << things - 1, things - 1);
        return x;
    }

    /** No row is left. */
    static MiddleScale noRows(int things) {
        return noted(things, 2, 3, 1, 2, 3, 0);
    }

    /** One scale of a kind, price 0, that lies so often, and notes on it: a set, what rose, and so on. */
    static MiddleScale lying(int things, int kind, int lies, int... notes) {
        MiddleScale x = new MiddleScale();
        x.things(things);
        x.scale(kind, 0, lies);
        for (int i = 0; i + 1 < notes.length; i += 2) {
            x.note(0, notes[i], notes[i + 1]);
        }
        return x;
    }

    /** Sixteen notes, all on scale 2: of 0 and 1 it was 1. */
    static MiddleScale fullOfNotes(int things) {
        MiddleScale x = of(things);
        for (int i = 0; i < 16; i++) {
            x.note(2, 3, 1);
        }
        return x;
    }

    static MiddleScale weighing(int... weights) {
        return weights(of(weights.length), weights);
    }

    static MiddleScale weights(MiddleScale x, int... weights) {
        for (int t = 0; t < weights.length; t++) {
            x.weight(t, weights[t]);
        }
        return x;
    }

    /** Puts a text on an empty tape. */
    static void tell(MiddleScale x, String text) {
        x.end(0);
        byte[] bytes = Arrays.copyOf(text.getBytes(StandardCharsets.ISO_8859_1), (text.length() + 19) / 20 * 20);
        IntBuffer ints = ByteBuffer.wrap(bytes).asIntBuffer();
        while (ints.remaining() > 0) {
            x.feed(ints.get(), ints.get(), ints.get(), ints.get(), ints.get());
        }
        x.end(text.length());
    }

    static int read(MiddleScale x, String text) {
        tell(x, text);
        return x.shed();
    }

    static boolean fitsRow(MiddleScale x, String row) {
        tell(x, row);
        return x.fits();
    }

    static int nearlyRow(MiddleScale x, String row) {
        tell(x, row);
        return x.nearly();
    }

    static int treeOf(MiddleScale x, String way, int scale, boolean set) {
        tell(x, way);
        return x.tree(scale, set);
    }

    /** For a call that answers nothing. */
    static Object call(Runnable r) {
        r.run();
        return "nothing";
    }

    /** Numbers beside 0 to most, among them those that a shift or a mask would take for one of these. */
    static int[] beside(int most) {
        return new int[] {-1, -2, most + 1, most + 2, 32, 64, 32 + most, 256, LEAST, LEAST + 1, MOST, 1 << 16};
    }

    static int[] and(int[] some, int... more) {
        return IntStream.concat(IntStream.of(some), IntStream.of(more)).toArray();
    }

    /** Every set that has not so many of so many things, and some that have others. */
    static int[] noSets(int things, int size) {
        int[] wrong = IntStream.range(0, 1 << things).filter(s -> Integer.bitCount(s) != size).toArray();
        int rest = (1 << size - 1) - 1;
        return and(wrong, rest | 1 << things, rest | 1 << things + 1, rest | 1 << 16, rest | 1 << 31, -1, LEAST, MOST);
    }
}
