/** Boundaries of what the rows left tell: promises 13 to 22, 27, 34, 35, 39, 40 and 46. */
final class RowBoundaries extends Boundaries {
    private static final String[] NO_ROWS_OF_FOUR = {"", "0", "012", "01234", "0122", "0012", "0120", "0101", "3013", "3210 ", " 0123", "0124",
        "012/", "012:", "/123", "4123", "012\u0000", "\u00ff123", "01 23", "0 123", "0123456", "01230123", "abcd",
        "\u0000\u0001\u0002\u0003"};

    RowBoundaries(Due due, Book book) {
        super(due, book);
    }

    @Override
    void look() {
        rowsThatFit();
        rowsOfLies();
        rowsOfAll();
        rowsBehindChanges();
        rowsInOrder();
        noSuchRow();
        noSuchPlace();
        fitsOrNot();
        fitsNoRow();
        mayOfThree();
        mayOfNoThree();
        heavierOfRows();
        heavierOfNoThing();
        heavierOfOne();
        placesOfRows();
        placesOfNoThing();
        endsEitherWay();
        gooseOfRows();
        centreRoundedDown();
        knownRows();
        nearlyRows();
        nearlyNoRow();
        wantsOfRows();
        wantsWithoutRows();
        wantsOfNoThing();
        wantsAnother();
        plainOfRows();
        plainOfNoThing();
        plainOfOne();
        suresOfRows();
        suresWithout();
        pairsInOrder();
        noSuchPair();
        standsInRows();
        standsOfNoThing();
    }

    // ---- promises 13 and 14

    private void rowsThatFit() {
        says(13, "A ROW FITS a NOTE, if by it the one that ROSE would.");
        for (int t = 0; t < 3; t++) {
            is("the middle of three is " + t, noted(3, 0, 7, t).rows(), 2);
        }
        for (int t = 0; t < 4; t++) {
            is("the second of four is " + t, noted(4, 1, 15, t).rows(), 6);
            is("it stands in place 2: " + t, noted(4, 1, 15, t).row(5, 2), t);
        }
        is("the heavier of two is 0", noted(3, 2, 3, 0).row(0, 0), 1);
        is("the heavier of two is 1", noted(3, 2, 3, 1).row(0, 0), 0);
        is("no row fits two that cannot be together", noRows(3).rows(), 0);
        is("one row", oneRow(7).rows(), 1);
        is("one row and its mirror", twoMirrors(7).rows(), 2);
    }

    private void rowsOfLies() {
        says(13, "A ROW FITS, if of the NOTES of each SCALE those that it does not FIT are LIES of it at most.");
        for (int lies = 0; lies <= 3; lies++) {
            MiddleScale x = lying(3, 2, lies);
            for (int notes = 1; notes <= 5; notes++) {
                x.note(0, 3, 1);
                is(notes + " notes of a scale that lies " + lies, x.rows(), notes <= lies ? 6 : 3);
            }
        }
        for (int lies = 0; lies <= 3; lies++) {
            MiddleScale x = lying(3, 2, lies);
            for (int i = 0; i <= lies; i++) {
                x.note(0, 3, 1);
            }
            // Rows with 0 above 1 were missed once too often, whatever comes then; the others by none but these.
            for (int i = 1; i <= lies; i++) {
                x.note(0, 3, 0);
                is("missed too often, then " + i + " that fit, lies " + lies, x.rows(), 3);
                is("which ones", x.heavier(1, 0), 1);
            }
            x.note(0, 3, 0);
            is("all are missed too often, lies " + lies, x.rows(), 0);
        }
        MiddleScale y = new MiddleScale();
        y.scale(2, 0, 1);
        y.scale(2, 0, 1);
        y.note(0, 3, 1);
        y.note(1, 3, 1);
        is("each scale for itself", y.rows(), 6);
        y.note(1, 3, 1);
        is("one of them lied too often", y.rows(), 3);
        MiddleScale z = new MiddleScale();
        for (int lies = 3; lies >= 0; lies--) {
            z.scale(2, 0, lies);
        }
        for (int i = 0; i < 3; i++) {
            z.note(0, 3, 1);
        }
        is("three false ones of the first of four scales", z.rows(), 6);
        z.note(3, 3, 1);
        is("one of the last, which does not lie", z.rows(), 3);
        is("16 notes that all fit", fullOfNotes(3).rows(), 3);
    }

    private void rowsOfAll() {
        says(13, "ROWS LEFT: all that FIT.");
        int[] rows = {6, 24, 120, 720, 5040};
        for (int n = 3; n <= 7; n++) {
            is("without notes, of " + n, of(n).rows(), rows[n - 3]);
            is("half of " + n, noted(n, 2, 3, 1).rows(), rows[n - 3] / 2);
            is("a third of " + n, noted(n, 0, 7, 1).rows(), rows[n - 3] / 3);
            is("none of " + n, noRows(n).rows(), 0);
        }
        MiddleScale x = noted(4, 2, 3, 1);
        is("half", x.rows(), 12);
        x.note(2, 3, 0);
        is("none", x.rows(), 0);
        x.drop(0);
        is("half again", x.rows(), 12);
    }

    /** Rows are asked for ahead of each change: what was found once may not stay. */
    private void rowsBehindChanges() {
        says(13, "ROWS LEFT, how many.");
        MiddleScale x = of(3);
        is("of three", x.rows(), 6);
        x.things(4);
        is("behind things()", x.rows(), 24);
        x.image();
        x.note(0, 7, 1);
        is("behind note()", x.rows(), 8);
        x.note(2, 9, 3);
        is("behind note()", x.rows(), 4);
        x.drop(0);
        is("behind drop()", x.rows(), 12);
        x.grown(3);
        is("behind grown()", x.rows(), 24);
        read(x, "note 2 0 1 rose 1");
        is("behind shed()", x.rows(), 12);
        x.back();
        is("behind back()", x.rows(), 24);
        read(x, "things 5; note 2 0 4 rose 4");
        is("behind shed() of things", x.rows(), 60);
        x.back();
        is("behind back() to other things", x.rows(), 24);
        MiddleScale y = of(4);
        is("any row fits", fitsRow(y, "0123"), true);
        y.note(2, 3, 0);
        is("it does not fit any more", fitsRow(y, "0123"), false);
        y.note(2, 3, 1);
        is("nothing does", fitsRow(y, "1023"), false);
        is("nothing has a mirror", y.count(5), 0);
        y.grown(0);
        is("any row fits again", fitsRow(y, "0123"), true);
        is("all have mirrors again", y.count(5), 24);
    }

    private void rowsInOrder() {
        says(14, "ROWS are in order by their first THING, then the second, and so on.");
        int k = 0;
        MiddleScale x = of(5);
        for (int code = 0; code < 100000; code++) {
            int[] row = {code / 10000, code / 1000 % 10, code / 100 % 10, code / 10 % 10, code % 10};
            if (isRow(row)) {
                // An object has 512 calls: a new one for each hundred.
                x = k % 20 == 0 ? of(5) : x;
                for (int place = 0; place < 5; place++) {
                    is("row(" + k + ", " + place + ")", x.row(k, place), row[place]);
                }
                k++;
            }
        }
        is("the last of seven begins with", of(7).row(5039, 0), 6);
        is("and ends with", of(7).row(5039, 6), 0);
        is("the first ends with", of(7).row(0, 6), 6);
        is("of those left: the first", noted(4, 2, 3, 0).row(0, 0), 1);
        is("of those left: the last", noted(4, 2, 3, 0).row(11, 0), 3);
    }

    private static boolean isRow(int[] row) {
        int seen = 0;
        for (int t : row) {
            seen |= 1 << t;
        }
        return seen == (1 << row.length) - 1;
    }

    private void noSuchRow() {
        says(14, "(from 0 on; NONE without that ROW)");
        for (int k : new int[] {-1, 24, 25, 64, 120, 1 << 16, LEAST, MOST}) {
            is("row(" + k + ", 0) of 24", of(4).row(k, 0), -1);
        }
        is("the last of 24", of(4).row(23, 0), 3);
        is("the first of 24", of(4).row(0, 0), 0);
        for (int k : new int[] {-1, 0, 1, LEAST, MOST}) {
            is("row(" + k + ", 3) of none", noRows(4).row(k, 3), -1);
        }
        is("one of one", oneRow(4).row(0, 3), 3);
        is("a second of one", oneRow(4).row(1, 3), -1);
        is("behind all of seven", of(7).row(5040, 0), -1);
        for (int n = 3; n <= 7; n++) {
            int rows = of(n).rows();
            is("the last of " + n, of(n).row(rows - 1, n - 1), 0);
            is("behind the last of " + n, of(n).row(rows, n - 1), -1);
        }
    }

    private void noSuchPlace() {
        says(14, "IndexOutOfBoundsException: there is no such place");
        refusesAll("row(0, ..)", OUTSIDE, beside(3), () -> of(4), (x, place) -> x.row(0, place));
        refusesAll("row(0, ..) of three", OUTSIDE, beside(2), () -> of(3), (x, place) -> x.row(0, place));
        refusesAll("row(0, ..) of seven", OUTSIDE, beside(6), () -> oneRow(7), (x, place) -> x.row(0, place));
        refusesAll("row(-1, ..)", OUTSIDE, beside(3), () -> of(4), (x, place) -> x.row(-1, place));
        refuses("row(0, 4) without rows", OUTSIDE, () -> noRows(4), x -> x.row(0, 4));
        is("the last place", of(4).row(0, 3), 3);
    }

    // ---- promises 15 and 27

    private void fitsOrNot() {
        says(15, "Uses the TAPE up: whether that ROW FITS (bytes 48 and the THING, from the lightest on)");
        is("the first of all", fitsRow(of(4), "0123"), true);
        is("the last of all", fitsRow(of(4), "3210"), true);
        is("of three", fitsRow(of(3), "210"), true);
        is("of seven", fitsRow(of(7), "6350142"), true);
        is("from the lightest on", fitsRow(noted(4, 2, 3, 1), "0123"), true);
        is("not from the heaviest on", fitsRow(noted(4, 2, 3, 1), "3210"), false);
        is("none is left", fitsRow(noRows(4), "0123"), false);
        is("the only one", fitsRow(oneRow(7), "0123456"), true);
        is("another than the only one", fitsRow(oneRow(7), "0123465"), false);
        is("as many lies as it has", fitsRow(lying(3, 2, 2, 3, 1, 3, 1), "102"), true);
        is("one more", fitsRow(lying(3, 2, 2, 3, 1, 3, 1, 3, 1), "102"), false);
        MiddleScale x = of(4);
        fitsRow(x, "0123");
        is("the tape behind a row that fits", tapeLength(x), 0);
        MiddleScale y = noRows(4);
        fitsRow(y, "0123");
        is("the tape behind a row that does not", tapeLength(y), 0);
    }

    private void fitsNoRow() {
        says(15, "IllegalArgumentException: it is no ROW");
        for (String wrong : NO_ROWS_OF_FOUR) {
            refusesTape("fits '" + wrong + "'", ILLEGAL, () -> of(4), wrong, MiddleScale::fits);
        }
        refusesTape("fits '0123' of three", ILLEGAL, () -> of(3), "0123", MiddleScale::fits);
        refusesTape("fits '012' of seven", ILLEGAL, () -> oneRow(7), "012", MiddleScale::fits);
        refusesTape("fits '0123457' of seven", ILLEGAL, () -> oneRow(7), "0123457", MiddleScale::fits);
        refusesTape("fits '0122' without rows", ILLEGAL, () -> noRows(4), "0122", MiddleScale::fits);
        refusesTape("fits twenty", ILLEGAL, () -> of(4), "0123".repeat(5), MiddleScale::fits);
        MiddleScale x = of(4);
        tell(x, "0123");
        x.end(3);
        boolean threw = false;
        try {
            x.fits();
        } catch (IllegalArgumentException e) {
            threw = true;
        }
        is("what was cut off does not count: throws", threw, true);
    }

    private void nearlyRows() {
        says(27, "the fewest neighbours to change places, one pair after another, until it is one of ROWS LEFT; none");
        is("one of them already", nearlyRow(of(4), "2031"), 0);
        is("without rows", nearlyRow(noRows(4), "0123"), -1);
        is("the last two", nearlyRow(oneRow(4), "0132"), 1);
        is("the first two", nearlyRow(oneRow(4), "1023"), 1);
        is("both", nearlyRow(oneRow(4), "1032"), 2);
        is("the first and the last change places", nearlyRow(oneRow(4), "3120"), 5);
        is("one goes through to the end", nearlyRow(oneRow(4), "1230"), 3);
        is("backwards, of three", nearlyRow(oneRow(3), "210"), 3);
        is("backwards, of seven: the most", nearlyRow(oneRow(7), "6543210"), 21);
        is("backwards, but its mirror is left", nearlyRow(twoMirrors(7), "6543210"), 0);
        is("the nearer of two", nearlyRow(twoMirrors(4), "3201"), 1);
        is("the nearer of two, the other", nearlyRow(twoMirrors(4), "0231"), 2);
        is("the last of 5040 is left", nearlyRow(backwards(), "0123456"), 21);
        is("one step from the last of 5040", nearlyRow(backwards(), "6543201"), 1);
        is("of 60 rows in all words", nearlyRow(noted(5, 2, 3, 0), "01234"), 1);
        is("of 60 rows, from the last on", nearlyRow(noted(5, 2, 3, 0), "43201"), 1);
        MiddleScale x = oneRow(4);
        nearlyRow(x, "0132");
        is("the tape behind it", tapeLength(x), 0);
        MiddleScale y = noRows(4);
        nearlyRow(y, "0132");
        is("the tape behind none", tapeLength(y), 0);
    }

    /** One row is left: 6 5 4 and so on, the last of all. */
    private static MiddleScale backwards() {
        MiddleScale x = of(7);
        for (int t = 0; t < 6; t++) {
            x.note(2, 3 << t, t);
        }
        return x;
    }

    private void nearlyNoRow() {
        says(27, "IllegalArgumentException: it is no ROW");
        for (String wrong : NO_ROWS_OF_FOUR) {
            refusesTape("nearly '" + wrong + "'", ILLEGAL, () -> of(4), wrong, MiddleScale::nearly);
        }
        refusesTape("nearly '0122' without rows", ILLEGAL, () -> noRows(4), "0122", MiddleScale::nearly);
    }

    // ---- promises 16 and 17

    private void mayOfThree() {
        says(16, "which of three THINGS may be the middle one (by some ROW LEFT)");
        is("each at first", of(4).may(14), 14);
        is("one", noted(4, 0, 7, 1).may(7), 2);
        is("each, though two of them are known", noted(4, 2, 3, 1).may(7), 7);
        // 2 above 1 above 0 with 3 above 2 or not: of 0, 2 and 3 the middle one is 2 or 3.
        is("one cannot", noted(4, 2, 3, 1, 2, 6, 2, 2, 9, 3).may(13), 12);
        is("without rows", noRows(4).may(7), 0);
        is("the last three of seven", oneRow(7).may(0b1110000), 0b0100000);
        is("the two ends and one between", oneRow(7).may(0b1001001), 8);
    }

    private void mayOfNoThree() {
        says(16, "IllegalArgumentException: the set has not three THINGS");
        for (int set = 0; set < 16; set++) {
            int told = set;
            if (Integer.bitCount(set) != 3) {
                refuses("may(" + set + ")", ILLEGAL, () -> of(4), x -> x.may(told));
            }
        }
        int[] others = {19, 3 | 1 << 5, 3 | 1 << 30, 3 | 1 << 31, 7 | 1 << 4, 7 | 1 << 31, 7 << 4, 7 << 29, -1, LEAST, MOST};
        refusesAll("may", ILLEGAL, others, () -> of(4), (x, set) -> x.may(set));
        refusesAll("may of three things", ILLEGAL, new int[] {11, 13, 14}, () -> of(3), (x, set) -> x.may(set));
        refuses("may(3) without rows", ILLEGAL, () -> noRows(4), x -> x.may(3));
    }

    private void heavierOfRows() {
        says(17, "HEAVIER of two: 1 in all ROWS LEFT, 0 in none, else NONE.");
        is("in some", of(4).heavier(0, 1), -1);
        is("in all", noted(4, 2, 3, 1).heavier(1, 0), 1);
        is("in none", noted(4, 2, 3, 1).heavier(0, 1), 0);
        is("in all but a few", noted(4, 2, 3, 1, 2, 9, 3).heavier(3, 1), -1);
        is("the first and the last", oneRow(7).heavier(6, 0), 1);
        is("the last and the first", oneRow(7).heavier(0, 6), 0);
        is("in one of two mirrors", twoMirrors(4).heavier(0, 3), -1);
        says(17, "(NONE, too, if no ROWS are LEFT)");
        is("neither", noRows(4).heavier(0, 1), -1);
        is("nor the other way", noRows(4).heavier(1, 0), -1);
        is("nor others", noRows(4).heavier(2, 3), -1);
    }

    private void heavierOfNoThing() {
        says(17, "IndexOutOfBoundsException: there is no such THING, SCALE, NOTE.");
        refusesAll("heavier(.., 1)", OUTSIDE, beside(3), () -> of(4), (x, t) -> x.heavier(t, 1));
        refusesAll("heavier(1, ..)", OUTSIDE, beside(3), () -> of(4), (x, t) -> x.heavier(1, t));
        refusesAll("heavier of one that is none, told first", OUTSIDE, beside(3), () -> of(4), (x, t) -> x.heavier(t, t));
        refuses("heavier(0, 4) without rows", OUTSIDE, () -> noRows(4), x -> x.heavier(0, 4));
    }

    private void heavierOfOne() {
        says(17, "IllegalArgumentException: they are one");
        refusesAll("heavier of one and", ILLEGAL, new int[] {0, 1, 2, 3}, () -> of(4), (x, t) -> x.heavier(t, t));
        refuses("without rows, too", ILLEGAL, () -> noRows(4), x -> x.heavier(2, 2));
    }

    // ---- promises 18 to 22

    private void placesOfRows() {
        says(18, "where it stands in some ROW LEFT (0 the lightest)");
        for (int n = 3; n <= 7; n++) {
            is("all of " + n, of(n).places(n - 1), (1 << n) - 1);
        }
        is("the lightest", oneRow(7).places(0), 1);
        is("the heaviest", oneRow(7).places(6), 64);
        is("two places", twoMirrors(5).places(1), 10);
        is("the middle one has one", twoMirrors(5).places(2), 4);
        is("not the lightest", noted(4, 2, 3, 1).places(1), 14);
        is("not the heaviest", noted(4, 2, 3, 1).places(0), 7);
        is("without rows", noRows(4).places(0), 0);
    }

    private void placesOfNoThing() {
        says(18, "IndexOutOfBoundsException: there is no such THING, SCALE, NOTE.");
        refusesAll("places", OUTSIDE, beside(3), () -> of(4), (x, t) -> x.places(t));
        refusesAll("places of three", OUTSIDE, beside(2), () -> of(3), (x, t) -> x.places(t));
        refuses("places(4) without rows", OUTSIDE, () -> noRows(4), x -> x.places(4));
    }

    private void endsEitherWay() {
        says(19, "pairs of THINGS that are first and last (either way) in some ROW LEFT: how many");
        for (int n = 3; n <= 7; n++) {
            is("all pairs of " + n, of(n).ends(), n * (n - 1) / 2);
        }
        is("either way is one", twoMirrors(4).ends(), 1);
        is("one way is one", oneRow(4).ends(), 1);
        is("the other way is one", noted(3, 2, 3, 0, 2, 6, 1).ends(), 1);
        is("two rows of two pairs", twoOthers(4).ends(), 2);
        is("without rows", noRows(4).ends(), 0);
    }

    private void gooseOfRows() {
        says(20, "THINGS that are first or last in all ROWS LEFT");
        is("none at first", of(4).goose(), 0);
        is("both of one row", oneRow(4).goose(), 9);
        is("both of mirrors: now first, now last", twoMirrors(4).goose(), 9);
        is("one of two rows", twoOthers(4).goose(), 1);
        is("the lightest alone", noted(4, 2, 3, 1, 2, 5, 2, 2, 9, 3).goose(), 1);
        is("the heaviest alone", noted(4, 2, 9, 3, 2, 10, 3, 2, 12, 3).goose(), 8);
        is("in most rows is not in all", noted(3, 2, 3, 1).goose(), 0);
        is("seven", oneRow(7).goose(), 65);
        says(20, "(0 without ROWS LEFT)");
        is("no rows of three", noRows(3).goose(), 0);
        is("no rows of seven", noRows(7).goose(), 0);
    }

    private void centreRoundedDown() {
        says(21, "THINGS that stand in place N by 2 (rounded down) in some ROW LEFT");
        is("of three: place 1", oneRow(3).centre(), 2);
        is("of four: place 2", oneRow(4).centre(), 4);
        is("of five: place 2", oneRow(5).centre(), 4);
        is("of six: place 3", oneRow(6).centre(), 8);
        is("of seven: place 3", oneRow(7).centre(), 8);
        is("two of four mirrors", twoMirrors(4).centre(), 6);
        is("one of five mirrors", twoMirrors(5).centre(), 4);
        is("all", of(7).centre(), 127);
        is("without rows", noRows(4).centre(), 0);
    }

    private void knownRows() {
        says(22, "KNOWN are ROWS, if they are one ROW, or one and ITS MIRROR.");
        for (int n = 3; n <= 7; n++) {
            is("one of " + n, oneRow(n).known(), true);
            is("one and its mirror of " + n, twoMirrors(n).known(), true);
            is("two others of " + n, twoOthers(n).known(), false);
            is("two others of " + n + " are two", twoOthers(n).rows(), 2);
            is("none of " + n, noRows(n).known(), false);
            is("all of " + n, of(n).known(), false);
        }
        is("three rows", noted(3, 2, 3, 1).known(), false);
        is("two pairs of mirrors", noted(4, 0, 7, 1, 0, 11, 1).known(), false);
    }

    // ---- promises 34 and 35

    private void wantsOfRows() {
        says(34, "0 all KNOWN; 1 the middle one: CENTRE is one THING; 2 the ends: ENDS is one pair");
        is("known: one row", oneRow(4).wants(0, 0), true);
        is("known: mirrors", twoMirrors(4).wants(0, 0), true);
        is("not known", twoOthers(4).wants(0, 0), false);
        is("one in the middle", oneRow(4).wants(1, 0), true);
        is("two in the middle", twoMirrors(4).wants(1, 0), false);
        is("one in the middle of five mirrors", twoMirrors(5).wants(1, 0), true);
        is("one pair of ends", twoMirrors(4).wants(2, 0), true);
        is("two pairs of ends", twoOthers(4).wants(2, 0), false);
        for (int want = 0; want < 3; want++) {
            is("nothing at first: " + want, of(5).wants(want, 0), false);
        }
        says(34, "3 whether a told THING is an end: in all ROWS LEFT or in none: whether it is had");
        is("in all", twoMirrors(4).wants(3, 3), true);
        is("in none", twoMirrors(4).wants(3, 2), true);
        is("in some", twoOthers(4).wants(3, 3), false);
        is("in some at first", of(4).wants(3, 0), false);
        is("the lightest in all", twoOthers(4).wants(3, 0), true);
        is("between in all", twoOthers(4).wants(3, 1), true);
        is("an end of one row", oneRow(4).wants(3, 3), true);
        is("between in one row", oneRow(4).wants(3, 2), true);
    }

    private void wantsWithoutRows() {
        says(34, "(nothing is without ROWS LEFT)");
        for (int want = 0; want <= 3; want++) {
            for (int t = 0; t < 4; t++) {
                is("wants(" + want + ", " + t + ")", noRows(4).wants(want, t), false);
            }
        }
    }

    private void wantsOfNoThing() {
        says(34, "IndexOutOfBoundsException: of want 3 alone");
        refusesAll("wants(3, ..)", OUTSIDE, beside(3), () -> of(4), (x, t) -> x.wants(3, t));
        refuses("wants(3, 4) without rows", OUTSIDE, () -> noRows(4), x -> x.wants(3, 4));
        for (int t : beside(3)) {
            is("wants(0, " + t + ")", oneRow(4).wants(0, t), true);
            is("wants(1, " + t + ")", oneRow(4).wants(1, t), true);
            is("wants(2, " + t + ")", oneRow(4).wants(2, t), true);
        }
    }

    private void wantsAnother() {
        says(34, "NoSuchElementException: another want");
        refusesAll("wants", ANOTHER, beside(3), () -> of(4), (x, want) -> x.wants(want, 0));
        refusesAll("wants of no thing", ANOTHER, beside(3), () -> of(4), (x, want) -> x.wants(want, 99));
    }

    private void plainOfRows() {
        says(35, "by how many ROWS LEFT are fewer in the worst case, if they are laid on a scale of KIND 2 that does not lie");
        is("half of all", of(4).plain(0, 1), 12);
        is("half of 5040", of(7).plain(5, 6), 2520);
        is("nothing, if it is known", oneRow(4).plain(0, 3), 0);
        is("nothing of 12", noted(4, 2, 3, 1).plain(0, 1), 0);
        is("nothing of 12, the other way", noted(4, 2, 3, 1).plain(1, 0), 0);
        is("4 of 12 in the worst case, not 8", noted(4, 2, 3, 1).plain(1, 2), 4);
        is("one of two", twoMirrors(4).plain(0, 3), 1);
        is("without scales", new MiddleScale().plain(0, 1), 3);
        is("a scale that lies", lying(3, 2, 3, 3, 1).plain(0, 1), 3);
        is("without rows", noRows(4).plain(0, 3), 0);
    }

    private void plainOfNoThing() {
        says(35, "IndexOutOfBoundsException: there is no such THING, SCALE, NOTE.");
        refusesAll("plain(.., 1)", OUTSIDE, beside(3), () -> of(4), (x, t) -> x.plain(t, 1));
        refusesAll("plain(1, ..)", OUTSIDE, beside(3), () -> of(4), (x, t) -> x.plain(1, t));
        refusesAll("plain of one that is none, told first", OUTSIDE, beside(3), () -> of(4), (x, t) -> x.plain(t, t));
    }

    private void plainOfOne() {
        says(35, "IllegalArgumentException: they are one");
        refusesAll("plain of one and", ILLEGAL, new int[] {0, 1, 2, 3}, () -> of(4), (x, t) -> x.plain(t, t));
        refuses("without rows, too", ILLEGAL, () -> noRows(4), x -> x.plain(2, 2));
    }

    // ---- promises 39, 40 and 46

    private void suresOfRows() {
        says(39, "SURE are three THINGS of which just one MAY be the middle one.");
        int[] threes = {1, 4, 10, 20, 35};
        for (int n = 3; n <= 7; n++) {
            is("none at first of " + n, of(n).sures(false), 0);
            is("all of one row of " + n, oneRow(n).sures(false), threes[n - 3]);
            is("all of mirrors of " + n, twoMirrors(n).sures(false), threes[n - 3]);
            is("none without rows of " + n, noRows(n).sures(false), 0);
            is("none without rows of " + n + ", without notes", noRows(n).sures(true), 0);
        }
        is("of two rows those without both of the last", twoOthers(4).sures(false), 2);
        is("two may be: not sure", noted(4, 2, 3, 1, 2, 6, 2, 2, 9, 3).sures(false), 1);
    }

    private void suresWithout() {
        says(39, "or those of them of which there is no NOTE on a SCALE of KIND 0");
        is("the noted one", noted(4, 0, 7, 1, 2, 9, 3).sures(false), 1);
        is("it is left out", noted(4, 0, 7, 1, 2, 9, 3).sures(true), 0);
        is("notes on other kinds do not count", oneRow(4).sures(true), 4);
        is("nor does one of four with all of them", noted(4, 2, 3, 1, 2, 6, 2, 2, 12, 3, 1, 15, 2).sures(true), 4);
        is("two of four are noted", twoMirrors(4).sures(true), 2);
        is("noted twice is left out once", noted(4, 0, 7, 1, 0, 7, 1, 0, 14, 2).sures(true), 2);
        is("noted on another three", noted(5, 0, 7, 1, 0, 28, 3).sures(true), 0);
        MiddleScale x = noted(3, 2, 3, 1, 2, 6, 2);
        x.scale(0, 0, 1);
        is("sure without a note", x.sures(true), 1);
        x.note(3, 7, 0);
        is("a note on another scale of kind 0, though it lies", x.sures(true), 0);
        is("it is still sure", x.sures(false), 1);
        x.drop(2);
        is("that note, the last one, put away", x.sures(true), 1);
        is("16 notes on other kinds", fullOfNotes(4).sures(true), 0);
        is("the last of 16 notes tells it", lastOfSixteen().sures(true), 0);
        is("it is sure by it", lastOfSixteen().sures(false), 1);
    }

    private static MiddleScale lastOfSixteen() {
        MiddleScale x = fullOfNotes(4);
        x.drop(0);
        x.note(0, 7, 1);
        return x;
    }

    private void pairsInOrder() {
        says(40, "(in order by the lesser THING, then the greater): 10 times the lesser and the greater");
        MiddleScale x = of(7);
        int k = 0;
        for (int a = 0; a < 7; a++) {
            for (int b = a + 1; b < 7; b++) {
                is("pair(" + k + ")", x.pair(k), 10 * a + b);
                k++;
            }
        }
        is("first the lesser, though the greater is the lightest", noted(3, 2, 3, 0, 2, 6, 1).pair(0), 2);
        is("of 0 1 3 2", twoOthers(4).pair(0), 2);
        is("of 0 1 2 3", twoOthers(4).pair(1), 3);
    }

    private void noSuchPair() {
        says(40, "The k-th pair of ENDS");
        for (int k : new int[] {-1, 6, 7, LEAST, MOST}) {
            is("pair(" + k + ") of six", of(4).pair(k), -1);
        }
        is("the last of six", of(4).pair(5), 23);
        is("a second of one", twoMirrors(4).pair(1), -1);
        is("behind all of seven", of(7).pair(21), -1);
        is("without rows", noRows(4).pair(0), -1);
        is("without rows, -1", noRows(4).pair(-1), -1);
    }

    private void standsInRows() {
        says(46, "the mean place of a THING in ROWS LEFT: a fraction without a common part");
        stands("the lightest", oneRow(4), 0, 0, 1);
        stands("the heaviest", oneRow(4), 3, 3, 1);
        stands("the middle of four", of(4), 2, 3, 2);
        stands("the middle of five", of(5), 4, 2, 1);
        stands("the middle of 5040", of(7), 6, 3, 1);
        stands("of mirrors", twoMirrors(4), 0, 3, 2);
        stands("of two rows", twoOthers(4), 3, 5, 2);
        // 1 above 0 in 021, 012 and 201: places 2, 1 and 2.
        stands("thirds", noted(3, 2, 3, 1), 1, 5, 3);
        stands("thirds", noted(3, 2, 3, 1), 0, 1, 3);
        stands("in the middle of all", noted(3, 2, 3, 1), 2, 1, 1);
        says(46, "NONE without ROWS LEFT");
        stands("no rows", noRows(4), 0, -1, -1);
        stands("no rows", noRows(4), 3, -1, -1);
    }

    private void stands(String call, MiddleScale x, int thing, int above, int below) {
        is("above, " + call, x.stands(thing, false), above);
        is("below, " + call, x.stands(thing, true), below);
    }

    private void standsOfNoThing() {
        says(46, "IndexOutOfBoundsException: there is no such THING, SCALE, NOTE.");
        refusesAll("stands", OUTSIDE, beside(3), () -> of(4), (x, t) -> x.stands(t, false));
        refusesAll("stands below", OUTSIDE, beside(3), () -> of(4), (x, t) -> x.stands(t, true));
        refuses("stands(4) without rows", OUTSIDE, () -> noRows(4), x -> x.stands(4, true));
    }
}
