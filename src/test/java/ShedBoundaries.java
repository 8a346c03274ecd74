/** Boundaries of things, scales, weights and notes: promises 6 to 12, 37, 47 and 50. */
final class ShedBoundaries extends Boundaries {
    ShedBoundaries(Due due, Book book) {
        super(due, book);
    }

    @Override
    void look() {
        threeToSeven();
        thingsWithNotes();
        weightsOfNoMore();
        numbersOfScales();
        fourScales();
        weightOfNoThing();
        noWeight();
        weighsAlike();
        risesOnNoScale();
        notAsManyAsPans();
        othersThanThings();
        noteOnNoScale();
        noteAsOfRises();
        roseNotInSet();
        sixteenNotes();
        lookAtNoNote();
        lookAtAnotherWhat();
        dropNoNote();
        othersMoveDown();
        grownNoThing();
        grownNotes();
        laidNoThing();
        laidInNotes();
        countOfAll();
        countOfMirrors();
        countOfFalse();
        countAnother();
    }

    // ---- promise 6

    private void threeToSeven() {
        says(6, "IllegalArgumentException: not 3 to 7");
        int[] rows = {6, 24, 120, 720, 5040};
        for (int n = 3; n <= 7; n++) {
            MiddleScale x = new MiddleScale();
            x.things(n);
            is("things(" + n + ")", x.count(0), n);
            is("rows of " + n, x.rows(), rows[n - 3]);
        }
        int[] none = {2, 1, 0, -1, -3, 8, 9, 32 + 3, 256 + 5, LEAST, MOST};
        refusesAll("things", ILLEGAL, none, () -> of(4), (x, n) -> call(() -> x.things(n)));
    }

    private void thingsWithNotes() {
        says(6, "IllegalStateException: there are NOTES");
        for (int n = 3; n <= 7; n++) {
            int things = n;
            refuses("things(" + n + ")", STATE, () -> noted(4, 0, 7, 1), x -> call(() -> x.things(things)));
        }
        refuses("things(8), told first", ILLEGAL, () -> noted(4, 0, 7, 1), x -> call(() -> x.things(8)));
        refuses("things(2), told first", ILLEGAL, () -> noted(4, 0, 7, 1), x -> call(() -> x.things(2)));
        MiddleScale x = noted(4, 0, 7, 1, 0, 7, 2);
        x.drop(0);
        refusesOne(x);
        x.drop(0);
        x.things(5);
        is("without notes again", x.rows(), 120);
        x.note(0, 7, 1);
        x.grown(0);
        x.things(3);
        is("when all are put away by one that has grown", x.rows(), 6);
    }

    private void refusesOne(MiddleScale x) {
        boolean threw = false;
        try {
            x.things(5);
        } catch (IllegalStateException e) {
            threw = true;
        }
        is("things(5) as long as one note is left throws", threw, true);
    }

    private void weightsOfNoMore() {
        says(6, "WEIGHTS of THINGS that there are no more are 0 then");
        for (int fewer = 3; fewer <= 7; fewer++) {
            MiddleScale x = weighing(1, 2, 3, 4, 5, 6, 7);
            x.things(fewer);
            x.things(7);
            for (int t = 0; t < 7; t++) {
                is("weight of " + t + " behind things(" + fewer + ")", x.weight(t, 0), t < fewer ? t + 1 : 0);
            }
        }
    }

    // ---- promise 7

    private void numbersOfScales() {
        says(7, "IllegalArgumentException: a number is none");
        int[] kinds = {-1, 3, 4, 32, 33, LEAST, MOST, 256};
        refusesAll("a kind", ILLEGAL, kinds, () -> of(4), (x, n) -> x.scale(n, 0, 0));
        int[] prices = {-1, -99, 100, 101, 256, 999, LEAST, MOST};
        refusesAll("a price", ILLEGAL, prices, () -> of(4), (x, n) -> x.scale(0, n, 0));
        refusesAll("lies", ILLEGAL, and(beside(3), 99), () -> of(4), (x, n) -> x.scale(0, 0, n));
        for (int kind = 0; kind <= 2; kind++) {
            is("the least of kind " + kind, new MiddleScale().scale(kind, 0, 0), 0);
            is("the most of kind " + kind, new MiddleScale().scale(kind, 99, 3), 0);
        }
        MiddleScale x = lying(3, 2, 3, 3, 1, 3, 1, 3, 1);
        is("three lies are borne", x.rows(), 6);
        x.note(0, 3, 1);
        is("four are not", x.rows(), 3);
        MiddleScale y = new MiddleScale();
        y.scale(2, 99, 0);
        y.note(0, 3, 1);
        is("the highest price", y.count(4), 99);
        is("no lie is borne", y.rows(), 3);
    }

    private void fourScales() {
        says(7, "UnsupportedOperationException: there are 4");
        MiddleScale x = new MiddleScale();
        for (int s = 0; s < 4; s++) {
            is("its number", x.scale(s % 3, s, s), s);
            is("scales", x.count(1), s + 1);
        }
        Maker four = () -> {
            MiddleScale y = of(4);
            y.scale(0, 1, 1);
            return y;
        };
        refuses("a fifth scale", FULL, four, y -> y.scale(0, 0, 0));
        refuses("a fifth scale of kind 2", FULL, four, y -> y.scale(2, 99, 3));
        says(7, "Of several exceptions the one told first is thrown");
        refuses("a fifth scale of no kind", ILLEGAL, four, y -> y.scale(3, 0, 0));
        refuses("a fifth scale of no price", ILLEGAL, four, y -> y.scale(0, 100, 0));
        refuses("a fifth scale of no lies", ILLEGAL, four, y -> y.scale(0, 0, 4));
    }

    // ---- promises 8 and 9

    private void weightOfNoThing() {
        says(8, "IndexOutOfBoundsException: there is no such THING");
        for (int n = 3; n <= 7; n++) {
            int things = n;
            is("the last of " + n, of(n).weight(n - 1, 1), 0);
            refusesAll("weight among " + n, OUTSIDE, beside(n - 1), () -> of(things), (x, t) -> x.weight(t, 1));
        }
        refuses("weight(4, 1000), told first", OUTSIDE, () -> of(4), x -> x.weight(4, 1000));
        refuses("weight(-1, -1), told first", OUTSIDE, () -> of(4), x -> x.weight(-1, -1));
    }

    private void noWeight() {
        says(8, "IllegalArgumentException: it is none");
        refusesAll("weight", ILLEGAL, new int[] {-1, -999, 1000, 1001, LEAST, MOST}, () -> weighing(7, 8, 9),
            (x, n) -> x.weight(0, n));
        MiddleScale x = of(3);
        is("the most", x.weight(0, 999), 0);
        is("what it was", x.weight(0, 0), 999);
        is("the least", x.weight(0, 5), 0);
        is("each for itself", x.weight(1, 5), 0);
        is("what it was last", x.weight(0, 5), 5);
    }

    private void weighsAlike() {
        says(9, "who weighs alike counts by numbers (the greater is the heavier)");
        is("two at first", of(4).rises(2, 3), 1);
        is("two others", of(4).rises(2, 9), 3);
        is("three at first", of(4).rises(0, 13), 2);
        is("four at first", of(4).rises(1, 15), 2);
        is("two of three alike, the lighter ones", weighing(5, 5, 9).rises(0, 7), 1);
        is("two of three alike, the heavier ones", weighing(5, 5, 1).rises(0, 7), 0);
        is("0 and 2 alike above 1", weighing(5, 1, 5).rises(0, 7), 0);
        is("one that is a little heavier", weighing(6, 5, 5).rises(2, 3), 0);
        is("999 and 0", weighing(999, 0, 0).rises(2, 5), 0);
        is("the lightest of four counts, too", weighing(5, 5, 5, 1).rises(1, 15), 1);
        is("the heaviest of four", weighing(9, 9, 9, 10).rises(1, 15), 2);
    }

    private void risesOnNoScale() {
        says(9, "IndexOutOfBoundsException: there is no such THING, SCALE, NOTE.");
        refusesAll("rises on", OUTSIDE, beside(2), () -> of(4), (x, s) -> x.rises(s, 7));
        refuses("rises(3, 0), told first", OUTSIDE, () -> of(4), x -> x.rises(3, 0));
        refuses("rises(0, 7) without scales", OUTSIDE, MiddleScale::new, x -> x.rises(0, 7));
        is("the last scale", of(4).rises(2, 3), 1);
    }

    private void notAsManyAsPans() {
        says(9, "IllegalArgumentException: the set has not as many as pans");
        refusesAll("rises on three", ILLEGAL, noSets(4, 3), () -> of(4), (x, set) -> x.rises(0, set));
        refusesAll("rises on four", ILLEGAL, noSets(4, 4), () -> of(4), (x, set) -> x.rises(1, set));
        refusesAll("rises on two", ILLEGAL, noSets(4, 2), () -> of(4), (x, set) -> x.rises(2, set));
        refuses("four of three things", ILLEGAL, () -> of(3), x -> x.rises(1, 7));
        is("all of three", of(3).rises(0, 7), 1);
        is("all of four", of(4).rises(1, 15), 2);
    }

    private void othersThanThings() {
        says(9, "or others than THINGS");
        for (int n = 3; n <= 7; n++) {
            int things = n;
            int last = 1 << n - 1;
            is("with the last of " + n, of(n).rises(2, last | 1), n - 1);
            refusesAll("rises among " + n, ILLEGAL, new int[] {1 | last << 1, 1 | 1 << 30, 1 | 1 << 31, 3 << n},
                () -> of(things), (x, set) -> x.rises(2, set));
        }
    }

    // ---- promise 10

    private void noteOnNoScale() {
        says(10, "IndexOutOfBoundsException: there is no such THING, SCALE, NOTE.");
        refusesAll("note on", OUTSIDE, beside(2), () -> of(4), (x, s) -> x.note(s, 7, 1));
        refuses("note(3, 0, 9), told first", OUTSIDE, () -> of(4), x -> x.note(3, 0, 9));
        refuses("note(3, 7, 1) of a 17th, told first", OUTSIDE, () -> fullOfNotes(4), x -> x.note(3, 7, 1));
    }

    private void noteAsOfRises() {
        says(10, "IllegalArgumentException: as of rises()");
        refusesAll("note on three", ILLEGAL, noSets(4, 3), () -> of(4), (x, set) -> x.note(0, set, 0));
        refusesAll("note on four", ILLEGAL, noSets(4, 4), () -> of(4), (x, set) -> x.note(1, set, 0));
        refusesAll("note on two", ILLEGAL, noSets(4, 2), () -> of(4), (x, set) -> x.note(2, set, 0));
        refuses("a 17th note of no set, told first", ILLEGAL, () -> fullOfNotes(4), x -> x.note(0, 3, 1));
    }

    private void roseNotInSet() {
        says(10, "or the one that rose is not in the set");
        refusesAll("what rose of 0, 1 and 2", ILLEGAL, beside(2), () -> of(4), (x, t) -> x.note(0, 7, t));
        refusesAll("what rose of 1 and 3", ILLEGAL, and(beside(3), 0, 2, 33, 35, -29, -31), () -> of(4),
            (x, t) -> x.note(2, 10, t));
        refusesAll("what rose of all seven but three", ILLEGAL, and(beside(6), 0, 2, 4), () -> of(7),
            (x, t) -> x.note(1, 0b1101010, t));
        refuses("a 17th note of what is not in the set, told first", ILLEGAL, () -> fullOfNotes(4), x -> x.note(0, 7, 3));
        for (int t = 0; t < 3; t++) {
            is("each of the set may rise", of(4).note(0, 7, t), 0);
        }
    }

    private void sixteenNotes() {
        says(10, "UnsupportedOperationException: there are 16.");
        MiddleScale x = of(4);
        for (int i = 0; i < 16; i++) {
            is("its number", x.note(2, 3, i % 2), i);
            is("notes", x.count(2), i + 1);
        }
        is("the last one", x.look(15, 2), 1);
        refuses("a 17th note", FULL, () -> fullOfNotes(4), y -> y.note(2, 3, 0));
        refuses("a 17th note on another scale", FULL, () -> fullOfNotes(4), y -> y.note(0, 7, 0));
        x.drop(0);
        is("room again", x.note(0, 14, 2), 15);
        is("the new one is the last", x.look(15, 1), 14);
    }

    // ---- promises 11 and 12

    private void lookAtNoNote() {
        says(11, "IndexOutOfBoundsException: there is no such THING, SCALE, NOTE.");
        refusesAll("look at", OUTSIDE, beside(1), () -> noted(4, 0, 7, 1, 2, 9, 3), (x, i) -> x.look(i, 0));
        refusesAll("look among 16 at", OUTSIDE, beside(15), () -> fullOfNotes(4), (x, i) -> x.look(i, 2));
        refuses("look(1, 3), told first", OUTSIDE, () -> noted(4, 0, 7, 1), x -> x.look(1, 3));
        refuses("look(0, 0) without notes", OUTSIDE, () -> of(4), x -> x.look(0, 0));
    }

    private void lookAtAnotherWhat() {
        says(11, "NoSuchElementException: another what");
        refusesAll("look at what", ANOTHER, beside(2), () -> noted(4, 1, 15, 3), (x, what) -> x.look(0, what));
        MiddleScale x = noted(4, 0, 7, 1, 2, 9, 3, 1, 15, 0);
        int[][] due = {{0, 7, 1}, {2, 9, 3}, {1, 15, 0}};
        for (int i = 0; i < 3; i++) {
            for (int what = 0; what <= 2; what++) {
                is("look(" + i + ", " + what + ")", x.look(i, what), due[i][what]);
            }
        }
    }

    private void dropNoNote() {
        says(12, "IndexOutOfBoundsException: there is no such THING, SCALE, NOTE.");
        refusesAll("drop", OUTSIDE, beside(1), () -> noted(4, 0, 7, 1, 2, 9, 3), (x, i) -> x.drop(i));
        refusesAll("drop among 16", OUTSIDE, beside(15), () -> fullOfNotes(4), (x, i) -> x.drop(i));
        refuses("drop(0) without notes", OUTSIDE, () -> of(4), x -> x.drop(0));
    }

    private void othersMoveDown() {
        says(12, "A NOTE is put away (others move down): how many are left.");
        for (int gone = 0; gone < 4; gone++) {
            MiddleScale x = noted(5, 0, 7, 0, 1, 15, 1, 2, 6, 2, 0, 28, 3);
            is("drop(" + gone + ")", x.drop(gone), 3);
            for (int i = 0; i < 3; i++) {
                is("note " + i + " behind drop(" + gone + ")", x.look(i, 2), i < gone ? i : i + 1);
                is("its set", x.look(i, 1), new int[] {7, 15, 6, 28}[i < gone ? i : i + 1]);
                is("its scale", x.look(i, 0), new int[] {0, 1, 2, 0}[i < gone ? i : i + 1]);
            }
        }
        MiddleScale y = fullOfNotes(4);
        is("the last of 16", y.drop(15), 15);
        is("told anew", y.note(2, 3, 0), 15);
        is("the new one", y.look(15, 2), 0);
        MiddleScale z = noted(4, 0, 7, 1);
        is("the only one", z.drop(0), 0);
        is("all rows again", z.rows(), 24);
    }

    // ---- promises 37 and 47

    private void grownNoThing() {
        says(37, "IndexOutOfBoundsException: there is no such THING, SCALE, NOTE.");
        refusesAll("grown", OUTSIDE, beside(3), () -> noted(4, 1, 15, 3), (x, t) -> x.grown(t));
        refusesAll("grown of seven", OUTSIDE, beside(6), () -> oneRow(7), (x, t) -> x.grown(t));
    }

    private void grownNotes() {
        says(37, "all NOTES with it are put away (numbers of the others move down): how many");
        is("without notes", of(4).grown(0), 0);
        is("in none of them", noted(4, 2, 3, 1).grown(2), 0);
        is("it stays", noted(4, 2, 3, 1).count(2), 1);
        MiddleScale x = fullOfNotes(4);
        is("all 16", x.grown(0), 16);
        is("none is left", x.count(2), 0);
        is("rows by none", x.rows(), 24);
        MiddleScale y = noted(5, 2, 3, 1, 2, 6, 2, 2, 12, 3, 0, 21, 4, 2, 24, 4, 2, 9, 3);
        is("first, last and between", y.grown(0), 3);
        is("three are left", y.count(2), 3);
        is("the first of them", y.look(0, 1), 6);
        is("the second", y.look(1, 1), 12);
        is("the third", y.look(2, 1), 24);
        is("which rose", y.look(2, 2), 4);
        is("two that are side by side", y.grown(2), 2);
        is("the one that is left", y.look(0, 1), 24);
        is("grown again", y.grown(2), 0);
        is("not only where it rose", noted(4, 2, 3, 1).grown(0), 1);
        is("the last thing", noted(4, 2, 9, 0).grown(3), 1);
    }

    private void laidNoThing() {
        says(47, "IndexOutOfBoundsException: there is no such THING, SCALE, NOTE.");
        refusesAll("laid", OUTSIDE, beside(3), () -> noted(4, 1, 15, 3), (x, t) -> x.laid(t, false));
        refusesAll("laid and rose", OUTSIDE, beside(3), () -> noted(4, 1, 15, 3), (x, t) -> x.laid(t, true));
    }

    private void laidInNotes() {
        says(47, "In how many NOTES a THING is LAID (rose false), or ROSE.");
        is("without notes", of(4).laid(0, false), 0);
        is("rose without notes", of(4).laid(0, true), 0);
        is("in all 16", fullOfNotes(4).laid(0, false), 16);
        is("but it rose in none", fullOfNotes(4).laid(0, true), 0);
        is("this one in all", fullOfNotes(4).laid(1, true), 16);
        is("in none of 16", fullOfNotes(4).laid(2, false), 0);
        MiddleScale x = noted(4, 1, 15, 3, 0, 14, 3, 2, 9, 0);
        is("on any scale", x.laid(3, false), 3);
        is("it rose in two", x.laid(3, true), 2);
        is("the last note counts", x.laid(0, true), 1);
    }

    // ---- promise 50

    private void countOfAll() {
        says(50, "0 THINGS, 1 SCALES, 2 NOTES, 3 texts, 4 SPENT COIN");
        MiddleScale x = of(5);
        x.note(0, 7, 1);
        x.note(1, 15, 1);
        x.note(0, 7, 2);
        x.shed();
        x.shed();
        is("things", x.count(0), 5);
        is("scales", x.count(1), 3);
        is("notes", x.count(2), 3);
        is("texts", x.count(3), 2);
        is("coin: 5, 7 and 5", x.count(4), 17);
        x.drop(1);
        is("coin of those that are left", x.count(4), 10);
        MiddleScale y = new MiddleScale();
        y.scale(2, 99, 0);
        for (int i = 0; i < 16; i++) {
            y.note(0, 3, 1);
        }
        is("the most coin", y.count(4), 1584);
    }

    private void countOfMirrors() {
        says(50, "5 ROWS LEFT whose MIRROR is LEFT, too");
        for (int n = 3; n <= 7; n++) {
            MiddleScale x = of(n);
            is("all of " + n, x.count(5), x.rows());
        }
        is("one row", oneRow(4).count(5), 0);
        is("one row and its mirror", twoMirrors(4).count(5), 2);
        is("two others", twoOthers(4).count(5), 0);
        is("no rows", noRows(4).count(5), 0);
        // 1 is heavier than 0, and than 2, but for one of both: 012 and 210, and 021 and 201.
        MiddleScale x = lying(3, 2, 1, 3, 1, 6, 1);
        is("four rows", x.rows(), 4);
        is("two of them are mirrors", x.count(5), 2);
        is("so of five things: 80 rows", lying(5, 2, 1, 3, 1, 6, 1).rows(), 80);
        is("half of them are mirrors", lying(5, 2, 1, 3, 1, 6, 1).count(5), 40);
    }

    private void countOfFalse() {
        says(50, "6 NOTES that the ROW by WEIGHTS does not FIT");
        is("without notes", of(4).count(6), 0);
        is("by weights alike the greater is the heavier", noted(4, 2, 3, 1).count(6), 0);
        is("and not the lesser", noted(4, 2, 3, 0).count(6), 1);
        is("all 16 fit", fullOfNotes(4).count(6), 0);
        is("none of 16 fits", weights(fullOfNotes(4), 1, 0).count(6), 16);
        is("whatever lies", lying(3, 2, 3, 3, 0, 3, 1).count(6), 1);
        is("on three", weights(noted(4, 0, 7, 1), 1, 2, 3).count(6), 0);
        is("on three, another", weights(noted(4, 0, 7, 1), 2, 1, 3).count(6), 1);
        is("on four", weights(noted(4, 1, 15, 1), 1, 3, 2, 4).count(6), 0);
        is("on four, another", weights(noted(4, 1, 15, 1), 1, 2, 3, 4).count(6), 1);
    }

    private void countAnother() {
        says(50, "NONE for another what");
        for (int what : beside(6)) {
            is("count(" + what + ")", of(4).count(what), -1);
        }
    }
}
