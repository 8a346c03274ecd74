/** Boundaries of what is laid next, and of all ways by it: promises 29 to 33 and 41 to 44. */
final class LayingBoundaries extends Boundaries {
    LayingBoundaries(Due due, Book book) {
        super(due, book);
    }

    @Override
    void look() {
        layingOfRows();
        layingAsIfItDidNotLie();
        layingOnNoScale();
        layingOfNoSet();
        nextOfRows();
        nextOfFewerThings();
        nextOnNoScale();
        fewestOfKnown();
        fewestOfFewerThings();
        fewestToEight();
        fewestSpent();
        fewestOnNoScale();
        boundOfRows();
        boundOfKnown();
        boundOnNoScale();
        byNextStops();
        byNextOnNoScale();
        askedAgain();
        meanOfRows();
        meanOnNoScale();
        cheapestOfScales();
        cheapestOfNone();
        whereStops();
        whereOfNone();
        treeOfTape();
        treeThen();
        treeNoWay();
        treeOnNoScale();
    }

    /** Three things, one scale that lies three times, and a note on it. */
    private static MiddleScale liar(int kind) {
        MiddleScale x = lying(3, kind, 3);
        x.note(0, kind == 0 ? 7 : 3, 1);
        return x;
    }

    // ---- promise 29

    private void layingOfRows() {
        says(29, "by each that may rise the ROWS LEFT by which it would (as if it did not lie): "
            + "the most of these numbers is WORST; the sum of their squares SPREAD");
        laying("three of all", of(4), 0, 7, 8, 192);
        laying("four of all", of(4), 1, 15, 6, 144);
        laying("two of all", of(4), 2, 12, 12, 288);
        laying("two of 5040", of(7), 2, 96, 2520, 12700800);
        laying("three of 5040", of(7), 0, 112, 1680, 8467200);
        laying("four of 5040", of(7), 1, 120, 1260, 6350400);
        laying("one alone may rise", noted(7, 2, 3, 1), 2, 3, 2520, 6350400);
        laying("8 and 4", noted(4, 2, 3, 1), 2, 6, 8, 80);
        laying("one row", oneRow(4), 0, 7, 1, 1);
        laying("two mirrors are together by three", twoMirrors(4), 0, 7, 2, 4);
        laying("and apart by two", twoMirrors(4), 2, 3, 1, 2);
        laying("without rows, three", noRows(4), 0, 7, 0, 0);
        laying("without rows, four", noRows(4), 1, 15, 0, 0);
        laying("without rows, two", noRows(4), 2, 3, 0, 0);
    }

    private void laying(String call, MiddleScale x, int scale, int set, int worst, int spread) {
        is("worst, " + call, x.laying(scale, set, false), worst);
        is("spread, " + call, x.laying(scale, set, true), spread);
    }

    private void layingAsIfItDidNotLie() {
        says(29, "(as if it did not lie)");
        laying("two", liar(2), 0, 3, 3, 18);
        laying("three", liar(0), 0, 7, 2, 12);
    }

    private void layingOnNoScale() {
        says(29, "IndexOutOfBoundsException: there is no such THING, SCALE, NOTE.");
        refusesAll("laying on", OUTSIDE, beside(2), () -> of(4), (x, s) -> x.laying(s, 7, false));
        refuses("laying(3, 0, true), told first", OUTSIDE, () -> of(4), x -> x.laying(3, 0, true));
        refuses("laying(0, 7, true) without scales", OUTSIDE, MiddleScale::new, x -> x.laying(0, 7, true));
    }

    private void layingOfNoSet() {
        says(29, "IllegalArgumentException: as of rises()");
        refusesAll("laying on three", ILLEGAL, noSets(4, 3), () -> of(4), (x, set) -> x.laying(0, set, false));
        refusesAll("laying on four", ILLEGAL, noSets(4, 4), () -> of(4), (x, set) -> x.laying(1, set, true));
        refusesAll("laying on two", ILLEGAL, noSets(4, 2), () -> of(4), (x, set) -> x.laying(2, set, false));
        refuses("without rows, too", ILLEGAL, () -> noRows(4), x -> x.laying(0, 3, false));
    }

    // ---- promise 30

    private void nextOfRows() {
        says(30, "of all sets for a SCALE the one with the least WORST");
        MiddleScale x = noted(6, 0, 7, 1, 2, 6, 2);
        laying("the next one", x, 1, 57, 34, 3792);
        laying("another has less spread", x, 1, 58, 36, 3648);
        is("four of six", x.next(1), 57);
        is("the last set", noted(4, 2, 3, 1, 2, 5, 2, 2, 9, 3).next(0), 14);
        is("the pair that is not known", noted(4, 2, 3, 1).next(2), 12);
        says(30, "of several the least SPREAD");
        MiddleScale y = noted(5, 2, 5, 2, 2, 9, 3);
        laying("the next one", y, 0, 22, 14, 534);
        laying("one ahead of it is as bad at worst", y, 0, 19, 14, 536);
        is("three of five", y.next(0), 22);
        is("four of five", noted(5, 2, 6, 2, 2, 3, 1).next(1), 30);
        says(30, "then the first by its THINGS in rising order (least first one, then second, ..)");
        MiddleScale z = noted(5, 2, 6, 1, 1, 27, 3);
        laying("0, 1 and 4", z, 0, 19, 5, 66);
        laying("0, 2 and 3, a lesser number, alike", z, 0, 13, 5, 66);
        is("0, 1 and 4 come first", z.next(0), 19);
        is("0 and 5 ahead of 1 and 2", noted(6, 1, 30, 3).next(2), 33);
        is("0, 3, 4, 5 ahead of 1, 2, 4, 5", noted(6, 0, 7, 1, 0, 14, 3).next(1), 57);
        for (int n = 4; n <= 7; n++) {
            is("the first three of all alike, of " + n, of(n).next(0), 7);
            is("the first four of all alike, of " + n, of(n).next(1), 15);
            is("the first two of all alike, of " + n, of(n).next(2), 3);
        }
        is("without rows all are alike", noRows(5).next(0), 7);
        is("without rows, four", noRows(5).next(1), 15);
        is("without rows, two", noRows(5).next(2), 3);
        is("one row: none parts anything, the first", oneRow(5).next(0), 7);
        is("as if it did not lie", liar(2).next(0), 3);
    }

    private void nextOfFewerThings() {
        says(30, "NONE, if THINGS are fewer than pans");
        is("four of three", of(3).next(1), -1);
        is("four of three without rows", noRows(3).next(1), -1);
        is("four of three, one row", oneRow(3).next(1), -1);
        is("four of four", of(4).next(1), 15);
        is("three of three", of(3).next(0), 7);
        is("two of three", of(3).next(2), 3);
    }

    private void nextOnNoScale() {
        says(30, "IndexOutOfBoundsException: there is no such THING, SCALE, NOTE.");
        refusesAll("next of", OUTSIDE, beside(2), () -> of(4), (x, s) -> x.next(s));
        refuses("next(0) without scales", OUTSIDE, MiddleScale::new, x -> x.next(0));
    }

    // ---- promise 31

    private void fewestOfKnown() {
        says(31, "a number of ROWS can be learnt by k LAYINGS, if they are none, or KNOWN");
        for (int s = 0; s < 3; s++) {
            is("one row, scale " + s, oneRow(4).fewest(s), 0);
            is("one row and its mirror, scale " + s, twoMirrors(4).fewest(s), 0);
            is("two others, scale " + s, twoOthers(4).fewest(s), 1);
        }
        says(31, "0 without ROWS LEFT");
        for (int s = 0; s < 3; s++) {
            is("no rows, scale " + s, noRows(4).fewest(s), 0);
            is("no rows of three, scale " + s, noRows(3).fewest(s), 0);
        }
    }

    private void fewestOfFewerThings() {
        says(31, "NONE (also if THINGS are fewer than pans, and they are not KNOWN)");
        is("four of three", of(3).fewest(1), -1);
        is("four of three, two others", twoOthers(3).fewest(1), -1);
        is("four of three, known", oneRow(3).fewest(1), 0);
        is("four of three, known with its mirror", twoMirrors(3).fewest(1), 0);
        is("three of three", of(3).fewest(0), 1);
        is("two of three", of(3).fewest(2), 3);
        is("no laying tells: the two lightest of four", of(4).fewest(1), -1);
        is("as if it did not lie", liar(2).fewest(0), 3);
    }

    private void fewestToEight() {
        says(31, "the least k of 0 to 8 by which ROWS LEFT can be learnt");
        is("0", twoMirrors(4).fewest(0), 0);
        is("1", of(3).fewest(0), 1);
        is("2", noted(4, 0, 7, 1).fewest(0), 2);
        is("3", of(4).fewest(0), 3);
        is("4", of(5).fewest(0), 4);
        is("5", of(4).fewest(2), 5);
        is("6", noted(5, 2, 12, 3).fewest(2), 6);
        is("7", noted(7, 2, 72, 6, 2, 3, 1, 2, 18, 1, 2, 80, 6, 0, 98, 1, 2, 33, 0).fewest(2), 7);
        // 512 rows at most can be learnt by 8 of pairs: with 360 the eighth is tried, and too many steps are made.
        is("360 rows: 8 is tried", noted(6, 2, 3, 1).fewest(2), -2);
        is("720 rows are more than 2 times 2 to the power of 8: 9 is not tried", of(6).fewest(2), -1);
        is("5040 rows", of(7).fewest(2), -1);
    }

    private void fewestSpent() {
        says(31, "SPENT, if that would take more than 4000 STEPS in all");
        is("4000 steps and learnt", noted(6, 0, 11, 0, 1, 45, 5, 2, 6, 1).fewest(0), 4);
        is("4001 steps, though learnt by the last", noted(6, 0, 11, 3, 1, 54, 1, 0, 13, 3).fewest(0), -2);
        is("4000 steps and not learnt", noted(6, 2, 33, 5, 0, 14, 1, 1, 54, 1, 2, 48, 5).fewest(1), -1);
        is("4001 steps", noted(6, 2, 5, 2, 1, 30, 4, 0, 41, 3, 2, 12, 2, 0, 50, 5).fewest(1), -2);
        is("many more steps", of(7).fewest(0), -2);
        MiddleScale x = noted(6, 0, 11, 0, 1, 45, 5, 2, 6, 1);
        is("4000 steps", x.fewest(0), 4);
        x.note(2, 6, 1);
        is("each call has 4000 of its own", x.fewest(0), 4);
        x.grown(0);
        is("many more steps", x.fewest(0), -2);
        x.grown(1);
        x.things(3);
        is("one step", x.fewest(0), 1);
    }

    private void fewestOnNoScale() {
        says(31, "IndexOutOfBoundsException: there is no such THING, SCALE, NOTE.");
        refusesAll("fewest by", OUTSIDE, beside(2), () -> of(4), (x, s) -> x.fewest(s));
        refuses("fewest(0) without scales", OUTSIDE, MiddleScale::new, x -> x.fewest(0));
        refuses("fewest(3) without rows", OUTSIDE, () -> noRows(4), x -> x.fewest(3));
    }

    // ---- promise 32

    private void boundOfRows() {
        says(32, "else the least k by which they are not more than 2 times W to the power of k");
        bound(6, 0, 1, of(3));
        bound(7, 0, 2, noted(5, 2, 6, 1, 1, 29, 3, 2, 9, 0));
        bound(18, 0, 2, noted(5, 2, 5, 2, 1, 30, 2));
        bound(19, 0, 3, noted(6, 2, 5, 0, 1, 15, 3, 1, 58, 5));
        bound(54, 0, 3, noted(6, 1, 53, 5, 0, 7, 2));
        bound(60, 0, 4, noted(5, 2, 3, 1));
        bound(8, 1, 1, noted(4, 0, 7, 1));
        bound(9, 1, 2, noted(5, 0, 7, 0, 1, 27, 3));
        bound(32, 1, 2, noted(6, 1, 57, 5, 1, 54, 4));
        bound(33, 1, 3, noted(6, 0, 56, 5, 2, 12, 3, 2, 3, 0, 2, 9, 3));
        bound(4, 2, 1, noted(4, 2, 6, 2, 0, 7, 2));
        bound(5, 2, 2, noted(5, 0, 7, 1, 1, 15, 0));
        bound(8, 2, 2, noted(4, 0, 7, 1));
        bound(9, 2, 3, noted(5, 0, 7, 0, 1, 27, 3));
        bound(16, 2, 3, noted(5, 2, 3, 1, 1, 29, 4));
        bound(17, 2, 4, noted(6, 0, 28, 3, 0, 7, 2, 1, 58, 5));
        bound(3, 0, 1, noted(3, 2, 3, 1));
        bound(2, 0, 0, twoOthers(4));
        bound(2, 1, 0, twoOthers(4));
        bound(2, 2, 0, twoOthers(4));
        bound(5040, 0, 8, of(7));
        bound(5040, 1, 6, of(7));
        bound(5040, 2, 12, of(7));
        bound(6, 1, 1, of(3));
    }

    private void bound(int rows, int scale, int k, MiddleScale x) {
        is("rows", x.rows(), rows);
        is("bound of " + rows + " by scale " + scale, x.bound(scale), k);
    }

    private void boundOfKnown() {
        says(32, "0, if ROWS LEFT are none, or KNOWN");
        for (int s = 0; s < 3; s++) {
            is("none", noRows(4).bound(s), 0);
            is("one", oneRow(4).bound(s), 0);
            is("one and its mirror", twoMirrors(4).bound(s), 0);
        }
    }

    private void boundOnNoScale() {
        says(32, "IndexOutOfBoundsException: there is no such THING, SCALE, NOTE.");
        refusesAll("bound by", OUTSIDE, beside(2), () -> of(4), (x, s) -> x.bound(s));
        refuses("bound(3) without rows", OUTSIDE, () -> noRows(4), x -> x.bound(3));
    }

    // ---- promises 33 and 41

    private void byNextStops() {
        says(33, "until ROWS are none, or KNOWN, or NEXT parts nothing (WORST is all of them; it is not laid then)");
        for (int s = 0; s < 3; s++) {
            is("none, scale " + s, noRows(4).byNext(s), 0);
            is("one, scale " + s, oneRow(4).byNext(s), 0);
            is("one and its mirror, scale " + s, twoMirrors(4).byNext(s), 0);
            is("two others, scale " + s, twoOthers(4).byNext(s), 1);
        }
        is("the second of four parts nothing more", of(4).byNext(1), 1);
        is("it parts nothing from the begin", noted(4, 1, 15, 3).byNext(1), 0);
        is("fewer things than pans", of(3).byNext(1), 0);
        says(33, "the most LAYINGS by which one comes there, however they come out");
        is("three by pairs: two or three", of(3).byNext(2), 3);
        is("three by three", of(3).byNext(0), 1);
        is("four by pairs", of(4).byNext(2), 5);
        is("more than the fewest", noted(6, 1, 53, 5, 1, 27, 3).byNext(0) > noted(6, 1, 53, 5, 1, 27, 3).fewest(0), true);
        is("as if it did not lie", liar(2).byNext(0), 3);
        // The last set, 1, 2 and 3, parts nothing, but others do.
        is("the last set parts nothing", noted(4, 0, 14, 1).laying(0, 14, false), 8);
        is("others do", noted(4, 0, 14, 1).byNext(0), 2);
        is("the last four of five part nothing", noted(5, 1, 30, 3).byNext(1) > 0, true);
    }

    private void byNextOnNoScale() {
        says(33, "IndexOutOfBoundsException: there is no such THING, SCALE, NOTE.");
        refusesAll("byNext of", OUTSIDE, beside(2), () -> of(4), (x, s) -> x.byNext(s));
        refuses("byNext(3) without rows", OUTSIDE, () -> noRows(4), x -> x.byNext(3));
    }

    /** On one object, each behind all others and behind other rows: nothing may stay that was found once. */
    private void askedAgain() {
        says(33, "BY NEXT: NEXT is laid again and again");
        int[][] sheds = {{0, 7, 1}, {2, 3, 1}, {0, 7, 1, 2, 9, 3}, {}, {2, 3, 1, 2, 3, 0}, {2, 3, 1, 2, 6, 2}};
        MiddleScale x = of(4);
        for (int[] notes : sheds) {
            while (x.count(2) > 0) {
                x.drop(0);
            }
            for (int i = 0; i < notes.length; i += 3) {
                x.note(notes[i], notes[i + 1], notes[i + 2]);
            }
            askedTwice(x, notes);
        }
    }

    private void askedTwice(MiddleScale x, int[] notes) {
        for (int turn = 0; turn < 2; turn++) {
            for (int s = 0; s < 3; s++) {
                is("fewest", x.fewest(s), noted(4, notes).fewest(s));
                is("byNext", x.byNext(s), noted(4, notes).byNext(s));
                is("mean", x.mean(s), noted(4, notes).mean(s));
                for (int t = 0; t < 4; t++) {
                    is("where", x.where(t, s), noted(4, notes).where(t, s));
                }
                is("next", x.next(s), noted(4, notes).next(s));
            }
            is("cheapest", x.cheapest(false), noted(4, notes).cheapest(false));
            is("coin", x.cheapest(true), noted(4, notes).cheapest(true));
        }
    }

    private void meanOfRows() {
        says(41, "LAYINGS by NEXT (as BY NEXT) of all ROWS LEFT, each for itself, together");
        for (int s = 0; s < 3; s++) {
            is("none, scale " + s, noRows(4).mean(s), 0);
            is("one, scale " + s, oneRow(4).mean(s), 0);
            is("one and its mirror, scale " + s, twoMirrors(4).mean(s), 0);
            is("two others, scale " + s, twoOthers(4).mean(s), 2);
        }
        // 0 and 1, then 0 and 2, then 1 and 2, if 0 was between: two rows by two layings, four by three.
        is("three by pairs", of(3).mean(2), 16);
        is("three by three", of(3).mean(0), 6);
        is("parts nothing behind the first", of(4).mean(1), 24);
        is("fewer things than pans", of(3).mean(1), 0);
        is("as if it did not lie", liar(2).mean(0), 16);
    }

    private void meanOnNoScale() {
        says(41, "IndexOutOfBoundsException: there is no such THING, SCALE, NOTE.");
        refusesAll("mean of", OUTSIDE, beside(2), () -> of(4), (x, s) -> x.mean(s));
        refuses("mean(3) without rows", OUTSIDE, () -> noRows(4), x -> x.mean(3));
    }

    // ---- promise 42

    /** Three things and scales: a kind, a price, and so on. */
    private static MiddleScale priced(int... scales) {
        MiddleScale x = new MiddleScale();
        for (int i = 0; i + 1 < scales.length; i += 2) {
            x.scale(scales[i], scales[i + 1], 0);
        }
        return x;
    }

    private void cheapest(String call, MiddleScale x, int scale, int coin) {
        is(call, x.cheapest(false), scale);
        is("coin, " + call, x.cheapest(true), coin);
    }

    private void cheapestOfScales() {
        says(42, "the one with the least PRICE times BY NEXT, of several the least number");
        cheapest("one laying for 2 or three for 1", priced(0, 2, 2, 1), 0, 2);
        cheapest("three for 1 or one for 4", priced(0, 4, 2, 1), 1, 3);
        cheapest("three for 1 or one for 3", priced(2, 1, 0, 3), 0, 3);
        cheapest("one for 3 or three for 1", priced(0, 3, 2, 1), 0, 3);
        cheapest("the last of four", priced(0, 9, 0, 8, 0, 7, 0, 6), 3, 6);
        cheapest("the first of four alike", priced(0, 6, 0, 6, 0, 6, 0, 6), 0, 6);
        cheapest("for nothing", priced(0, 1, 2, 0), 1, 0);
        cheapest("the dearest", priced(2, 99), 0, 297);
        cheapest("one that does not come to known rows is none of them", priced(1, 0, 0, 99), 1, 99);
        MiddleScale x = priced(0, 9, 2, 5);
        x.note(0, 7, 1);
        cheapest("known: nothing is laid, the least number", x, 0, 0);
        cheapest("four of three, known", oneOf(priced(1, 9, 0, 5)), 0, 0);
    }

    private static MiddleScale oneOf(MiddleScale x) {
        x.note(1, 7, 1);
        return x;
    }

    private void cheapestOfNone() {
        says(42, "CHEAPEST (coin false), or its PRICE times BY NEXT; NONE.");
        cheapest("without scales", new MiddleScale(), -1, -1);
        cheapest("fewer things than pans", priced(1, 0), -1, -1);
        MiddleScale four = priced(1, 1);
        four.things(4);
        cheapest("rows that are not known at the end of a way", four, -1, -1);
        says(42, "by which one comes BY NEXT to ROWS that are KNOWN (or none) however it comes out");
        cheapest("no rows", noRows(4), 0, 0);
        cheapest("known", twoMirrors(4), 0, 0);
        // 0, 1, 2 in row and 3 anywhere: the second heaviest is 1 (two rows), 2 or 3 (one row each).
        cheapest("known on some ways by four alone", chained(0, 1, 2), 1, 18);
        cheapest("known on some ways by four alone, the other way round", chained(3, 2, 1), 1, 18);
    }

    /** Four things, four pans for nothing and two for 9; three of the things are known from the lightest on. */
    private static MiddleScale chained(int a, int b, int c) {
        MiddleScale x = new MiddleScale();
        x.things(4);
        x.scale(1, 0, 0);
        x.scale(2, 9, 0);
        x.note(1, 1 << a | 1 << b, b);
        x.note(1, 1 << b | 1 << c, c);
        return x;
    }

    // ---- promise 43

    private void whereStops() {
        says(43, "as soon as the THING stands in one place in all ROWS");
        for (int s = 0; s < 3; s++) {
            is("the lightest, scale " + s, noted(4, 2, 3, 1, 2, 5, 2, 2, 9, 3).where(0, s), 0);
            is("of two rows that are no mirrors, scale " + s, twoOthers(4).where(1, s), 0);
            is("one that stands in two, scale " + s, twoOthers(4).where(3, s), 1);
        }
        // 0 and 1, 0 and 2: then 0 is placed, but 2 is not.
        is("no sooner", of(3).where(0, 2), 2);
        is("as late as all are known", of(3).where(2, 2), 3);
        is("the middle of three", of(3).where(2, 0), 1);
        says(43, "or in just two that are as far from the two ends: the most LAYINGS");
        MiddleScale x = noted(4, 0, 11, 1, 0, 13, 2);
        is("0 and 3 are the ends of four rows", x.rows(), 4);
        is("they are not known", x.byNext(2), 2);
        for (int t = 0; t < 4; t++) {
            is("each stands in two places as far from the ends: " + t, x.where(t, 2), 0);
        }
        is("two places that are not: 2 and 3 of 0 to 3", twoOthers(4).where(2, 2), 1);
        is("the two middle ones of four", noted(4, 0, 11, 1, 0, 13, 2).where(1, 0), 0);
        // Rows 0 1 2, 0 2 1 and 2 0 1: 0 stands first or in the middle.
        is("the first and the middle of three", noted(3, 2, 3, 1).places(0), 3);
        is("are not as far from the ends", noted(3, 2, 3, 1).where(0, 2), 1);
        is("three places", noted(3, 2, 3, 1).where(2, 2), 2);
        says(43, "as BY NEXT, but one stops, too");
        is("without rows", noRows(4).where(0, 2), 0);
        is("one row", oneRow(4).where(1, 2), 0);
        is("one row and its mirror", twoMirrors(4).where(1, 2), 0);
        is("it parts nothing more", of(4).where(0, 1), 1);
        is("fewer things than pans", of(3).where(0, 1), 0);
        is("as if it did not lie", liar(2).where(2, 0), 3);
    }

    private void whereOfNone() {
        says(43, "IndexOutOfBoundsException: there is no such THING, SCALE, NOTE.");
        refusesAll("where of", OUTSIDE, beside(3), () -> of(4), (x, t) -> x.where(t, 0));
        refusesAll("where by", OUTSIDE, beside(2), () -> of(4), (x, s) -> x.where(0, s));
        refuses("where(4, 0) without rows", OUTSIDE, () -> noRows(4), x -> x.where(4, 0));
        is("the last thing by the first scale", of(4).where(3, 0) > 0, true);
        for (int s = 0; s < 3; s++) {
            is("the last of seven, scale " + s, oneRow(7).where(6, s), 0);
        }
    }

    // ---- promise 44

    private void treeOfTape() {
        says(44, "by a SCALE NEXT is laid, as often as there are bytes on the TAPE, each 48 and the THING that rises");
        is("none of them", treeOf(of(3), "", 2, false), 6);
        is("one", treeOf(of(3), "1", 2, false), 3);
        is("two", treeOf(of(3), "10", 2, false), 1);
        is("two, the other way", treeOf(of(3), "12", 2, false), 2);
        is("three", treeOf(of(3), "121", 2, false), 1);
        is("three of three", treeOf(of(3), "2", 0, false), 2);
        is("four of four", treeOf(of(4), "3", 1, false), 6);
        is("of ROWS LEFT", treeOf(noted(3, 2, 3, 1), "", 2, false), 3);
        is("as if it did not lie", treeOf(liar(2), "1", 0, false), 3);
        MiddleScale x = of(3);
        treeOf(x, "10", 2, false);
        is("the tape is used up", tapeLength(x), 0);
        is("nothing is noted", x.count(2), 0);
        is("the rows are as they were", x.rows(), 6);
    }

    private void treeThen() {
        says(44, "which set would be NEXT (none, if they are none, or KNOWN, or it parts nothing)");
        is("at first", treeOf(of(3), "", 2, true), 3);
        is("then", treeOf(of(3), "1", 2, true), 5);
        is("then", treeOf(of(3), "12", 2, true), 6);
        is("known: one row", treeOf(of(3), "121", 2, true), -1);
        is("known: one row and its mirror", treeOf(of(3), "1", 0, true), -1);
        is("known from the begin", treeOf(twoMirrors(4), "", 2, true), -1);
        is("none from the begin", treeOf(noRows(4), "", 2, true), -1);
        is("none from the begin: rows", treeOf(noRows(4), "", 2, false), 0);
        is("none behind one that cannot rise", treeOf(noted(4, 0, 7, 1, 0, 11, 1), "0", 0, true), -1);
        is("none behind one that cannot rise: rows", treeOf(noted(4, 0, 7, 1, 0, 11, 1), "0", 0, false), 0);
        is("it parts nothing", treeOf(of(4), "3", 1, true), -1);
        is("it parts nothing from the begin", treeOf(noted(4, 1, 15, 3), "", 1, true), -1);
        is("fewer things than pans", treeOf(of(3), "", 1, true), -1);
        is("fewer things than pans: rows", treeOf(of(3), "", 1, false), 6);
    }

    private void noWay(String call, Maker maker, String way, int scale) {
        refusesTape(call + ": rows", ILLEGAL, maker, way, x -> x.tree(scale, false));
        refusesTape(call + ": next", ILLEGAL, maker, way, x -> x.tree(scale, true));
    }

    private void treeNoWay() {
        says(44, "A byte that is no THING of the set that is NEXT then, or where none is: it is no way.");
        for (String wrong : new String[] {"2", "3", "9", "/", ":", "a", " ", "\u0000", "\u0001", "\u00ff", "\u0050"}) {
            noWay("'" + wrong + "' of 0 and 1", () -> of(3), wrong, 2);
        }
        noWay("a thing that is not in the set, in the second laying", () -> of(3), "11", 2);
        noWay("a blank behind", () -> of(3), "1 ", 2);
        noWay("a thing of the set, but known by then", () -> of(3), "11", 0);
        noWay("one more than known", () -> of(3), "1211", 2);
        noWay("twenty", () -> of(3), "1".repeat(20), 2);
        noWay("it parts nothing", () -> of(4), "33", 1);
        noWay("it parts nothing from the begin", () -> noted(4, 1, 15, 3), "3", 1);
        noWay("no rows", () -> noRows(4), "0", 0);
        noWay("no rows behind one that cannot rise", () -> noted(4, 0, 7, 1, 0, 11, 1), "00", 0);
        noWay("fewer things than pans", () -> of(3), "0", 1);
        noWay("a thing that there is not", () -> of(3), "3", 0);
    }

    private void treeOnNoScale() {
        says(44, "a call that throws changes nothing but the TAPE, where it is used up");
        for (int s : beside(2)) {
            refusesTape("tree by " + s, OUTSIDE, () -> of(4), "1", x -> x.tree(s, false));
            refusesTape("tree by " + s + ", no way", OUTSIDE, () -> of(4), "pip", x -> x.tree(s, true));
        }
        refusesTape("tree without scales", OUTSIDE, MiddleScale::new, "", x -> x.tree(0, true));
    }
}
