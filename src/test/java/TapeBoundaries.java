/** Boundaries of a new object, of the tape and of the image: promises 1, 2, 3, 48 and 49. */
final class TapeBoundaries extends Boundaries {
    /** Four blanks. */
    private static final int BLANKS = 0x20202020;

    TapeBoundaries(Due due, Book book) {
        super(due, book);
    }

    @Override
    void look() {
        newObject();
        nothingIsThereAtFirst();
        twentyBytes();
        highestFirst();
        notMoreThan400();
        firstBytesAlone();
        fewerBytes();
        belowZero();
        imageOfAll();
        oneImage();
        noImage();
        butForTapeAndFault();
    }

    /** Blanks up to a length, which is one of 20, 40, .. */
    private static MiddleScale blanks(int length) {
        MiddleScale x = new MiddleScale();
        for (int i = 0; i < length; i += 20) {
            x.feed(BLANKS, BLANKS, BLANKS, BLANKS, BLANKS);
        }
        return x;
    }

    // ---- promise 1

    private void newObject() {
        says(1, "Three THINGS, no SCALES, no NOTES.");
        is("things", new MiddleScale().count(0), 3);
        is("scales", new MiddleScale().count(1), 0);
        is("notes", new MiddleScale().count(2), 0);
        is("rows", new MiddleScale().rows(), 6);
        is("NONE", MiddleScale.NONE, -1);
        refuses("weight(3, 0)", OUTSIDE, MiddleScale::new, x -> x.weight(3, 0));
        refuses("rises(0, 7)", OUTSIDE, MiddleScale::new, x -> x.rises(0, 7));
        refuses("note(0, 7, 1)", OUTSIDE, MiddleScale::new, x -> x.note(0, 7, 1));
        refuses("look(0, 0)", OUTSIDE, MiddleScale::new, x -> x.look(0, 0));
        is("two objects have nothing together: the first", three().count(1), 1);
        is("two objects have nothing together: the second", new MiddleScale().count(1), 0);
    }

    private static MiddleScale three() {
        MiddleScale x = new MiddleScale();
        x.scale(0, 0, 0);
        return x;
    }

    private void nothingIsThereAtFirst() {
        says(1, "WEIGHT of a THING: 0 at first");
        for (int t = 0; t < 3; t++) {
            is("weight of " + t, new MiddleScale().weight(t, 5), 0);
        }
        for (int t = 3; t < 7; t++) {
            is("weight of " + t + " of seven", of(7).weight(t, 5), 0);
        }
        is("texts", new MiddleScale().count(3), 0);
        is("coin", new MiddleScale().count(4), 0);
        is("notes that the weights do not fit", new MiddleScale().count(6), 0);
        is("the tape", new MiddleScale().end(1), false);
        is("the tape is there, but empty", new MiddleScale().end(0), true);
    }

    // ---- promise 2

    private void twentyBytes() {
        says(2, "Twenty bytes come behind the TAPE");
        MiddleScale x = new MiddleScale();
        is("the first twenty", x.feed(0, 0, 0, 0, 0), 20);
        is("twenty more", x.feed(-1, -1, -1, -1, -1), 40);
        is("cut to one", x.end(1), true);
        is("twenty behind one", x.feed(LEAST, MOST, 1, 2, 3), 21);
        MiddleScale y = new MiddleScale();
        y.feed(BLANKS, BLANKS, BLANKS, BLANKS, 0x77656967);
        y.feed(0x68742030, 0x20373720, BLANKS, BLANKS, BLANKS);
        is("a word that goes on in the next twenty", y.shed(), 1);
        is("what it told", y.weight(0, 0), 77);
    }

    private void highestFirst() {
        says(2, "of each number the highest first");
        MiddleScale x = of(3);
        is("'weight 0 1;weight 1 '", x.feed(0x77656967, 0x68742030, 0x20313b77, 0x65696768, 0x74203120), 20);
        is("'23;weight 2 456;weig'", x.feed(0x32333b77, 0x65696768, 0x74203220, 0x3435363b, 0x77656967), 40);
        is("'ht 0 9              '", x.feed(0x68742030, 0x20392020, BLANKS, BLANKS, BLANKS), 60);
        is("read", x.shed(), 1);
        is("weight 0", x.weight(0, 0), 9);
        is("weight 1", x.weight(1, 0), 23);
        is("weight 2", x.weight(2, 0), 456);
        for (int place = 0; place < 20; place++) {
            MiddleScale y = new MiddleScale();
            int[] five = {BLANKS, BLANKS, BLANKS, BLANKS, BLANKS};
            // A byte above 127 ahead, too: it may not smear over the others.
            five[place / 4] |= 0xdf << 24 - place % 4 * 8;
            y.feed(five[0], five[1], five[2], five[3], five[4]);
            wrongTape(y, "byte 255 at " + place, place);
        }
    }

    private void notMoreThan400() {
        says(2, "NONE, and none come, if it would have more than 400");
        MiddleScale x = blanks(380);
        is("onto 380", x.feed(BLANKS, BLANKS, BLANKS, BLANKS, BLANKS), 400);
        is("onto 400", x.feed(BLANKS, BLANKS, BLANKS, BLANKS, BLANKS), -1);
        is("it has no more than 400", x.end(401), false);
        is("it has 400", x.end(400), true);
        is("all 400 are read", x.shed(), 1);
        for (int length = 381; length <= 400; length++) {
            MiddleScale y = blanks(400);
            y.end(length);
            is("onto " + length, y.feed(-1, -1, -1, -1, -1), -1);
            is("none came onto " + length, y.end(length + 1), false);
            is("none is lost of " + length, y.end(length), true);
            is("only blanks are on it: " + length, y.shed(), 1);
        }
        MiddleScale z = blanks(400);
        z.feed(-1, -1, -1, -1, -1);
        z.end(380);
        is("there is room again", z.feed(BLANKS, BLANKS, BLANKS, BLANKS, BLANKS), 400);
        is("only blanks are on it", z.shed(), 1);
        is("and again when it is used up", z.feed(0, 0, 0, 0, 0), 20);
    }

    // ---- promise 3

    private void firstBytesAlone() {
        says(3, "The TAPE has its first n bytes alone: true");
        MiddleScale x = of(3);
        tell(x, "weight 0 123");
        is("all of them", x.end(12), true);
        is("one less", x.end(11), true);
        is("that one is gone", x.end(12), false);
        is("read", x.shed(), 1);
        is("what the first eleven told", x.weight(0, 0), 12);
        tell(x, "thing");
        is("none of them", x.end(0), true);
        is("none of none", x.end(0), true);
        is("an empty text", x.shed(), 2);
        tell(x, "weight 0 9xxxxxxxxxx");
        x.end(10);
        x.feed(0x39200000, 0, 0, 0, 0);
        is("what comes then stands right behind", x.end(12), true);
        is("read", x.shed(), 3);
        is("what it told", x.weight(0, 0), 99);
    }

    private void fewerBytes() {
        says(3, "false, and nothing happens, if it has fewer");
        is("one of none", new MiddleScale().end(1), false);
        for (int n : new int[] {12, 13, 20, 21, 400, 401, MOST}) {
            MiddleScale x = of(3);
            tell(x, "weight 0 12");
            is("end(" + n + ") of eleven", x.end(n), false);
            is("all eleven are there", tapeLength(x), 11);
            is("and read", x.shed(), 1);
            is("what they told", x.weight(0, 0), 12);
        }
        is("401 of 400", blanks(400).end(401), false);
        is("400 of 400", blanks(400).end(400), true);
    }

    private void belowZero() {
        says(3, "or n is below 0");
        for (int n : new int[] {-1, -2, -20, LEAST, LEAST + 11}) {
            MiddleScale x = of(3);
            tell(x, "weight 0 12");
            is("end(" + n + ")", x.end(n), false);
            is("all eleven are there", tapeLength(x), 11);
            is("and read", x.shed(), 1);
            is("what they told", x.weight(0, 0), 12);
        }
        is("of an empty tape", new MiddleScale().end(-1), false);
    }

    // ---- promises 48 and 49

    private void imageOfAll() {
        says(48, "THE IMAGE is kept.");
        MiddleScale x = weighing(9, 8, 7, 6);
        read(x, "");
        x.note(0, 7, 1);
        x.image();
        String kept = state(x);
        x.weight(0, 1);
        is("a weight is back", x.back() ? state(x) : "", kept);
        x.note(2, 3, 1);
        is("a note less", x.back() ? state(x) : "", kept);
        x.drop(0);
        is("a note more", x.back() ? state(x) : "", kept);
        x.scale(0, 0, 3);
        is("a scale less", x.back() ? state(x) : "", kept);
        read(x, "weight 2 500");
        is("a text less", x.back() ? state(x) : "", kept);
        x.grown(0);
        x.things(7);
        is("things as they were", x.back() ? state(x) : "", kept);
        x.grown(0);
        x.things(3);
        is("a weight of a thing that was no more", x.back() ? state(x) : "", kept);
        MiddleScale y = new MiddleScale();
        y.image();
        y.things(5);
        y.scale(0, 1, 1);
        is("an image of nothing, too", y.back(), true);
        is("three things", y.count(0), 3);
        is("no scale", y.count(1), 0);
    }

    private void oneImage() {
        says(48, "THE IMAGE (one) of all may be kept");
        MiddleScale x = of(3);
        x.weight(0, 1);
        x.image();
        x.weight(0, 2);
        x.image();
        x.weight(0, 3);
        is("back", x.back(), true);
        is("to the newer one", x.weight(0, 4), 2);
        is("back a second time", x.back(), true);
        is("to the newer one again, not the older", x.weight(0, 5), 2);
        is("back a third time", x.back(), true);
        is("what was changed behind it is not in it", x.weight(0, 5), 2);
        MiddleScale y = of(3);
        y.note(0, 7, 1);
        y.image();
        y.drop(0);
        y.back();
        y.drop(0);
        y.back();
        is("a note that is put away twice", y.look(0, 2), 1);
    }

    private void noImage() {
        says(49, "false, and nothing happens, if none was kept");
        MiddleScale x = noted(4, 0, 7, 1);
        x.weight(0, 5);
        tell(x, "weight 0 77");
        String before = state(x);
        is("back", x.back(), false);
        is("nothing happens", state(x), before);
        is("not to the tape", tapeLength(x), 11);
        is("nor to anything of a new one", new MiddleScale().back(), false);
        x.image();
        is("one is kept", x.back(), true);
    }

    private void butForTapeAndFault() {
        says(49, "gone back to (but for the TAPE, fault() and THE IMAGE itself)");
        MiddleScale x = of(3);
        tell(x, "weight 1 2");
        x.image();
        x.end(0);
        wrongText(x, "scale", 5);
        tell(x, "weight 2 66");
        is("back", x.back(), true);
        is("the tape is not as it was", tapeLength(x), 11);
        is("fault() is not as it was", x.fault(), 5);
        is("the tape is read", x.shed(), 1);
        is("what it told", x.weight(2, 0), 66);
        is("fault() of it", x.fault(), -1);
        is("back a second time", x.back(), true);
        is("fault() stays", x.fault(), -1);
        is("the tape stays used up", tapeLength(x), 0);
        MiddleScale y = of(3);
        wrongText(y, "weight 9", 7);
        y.image();
        read(y, "");
        is("back", y.back(), true);
        is("a fault is not brought back", y.fault(), -1);
    }
}
