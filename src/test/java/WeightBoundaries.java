import java.util.Arrays;

/** Boundaries of what is done on hidden weights: promises 36 and 38. */
final class WeightBoundaries extends Boundaries {
    WeightBoundaries(Due due, Book book) {
        super(due, book);
    }

    @Override
    void look() {
        sortedThree();
        sortedHighIsLowAndOne();
        sortedByThirds();
        sortedAlike();
        sortedNoPlace();
        playedDraws();
        playedGoesRound();
        playedWrongOnes();
        playedStops();
        playedByHand();
        playedOnNoScale();
        playedNoNumber();
        playedAnotherWhat();
    }

    // ---- promise 36

    private void sorted(MiddleScale x, int layings, int... row) {
        is("layings to " + Arrays.toString(row), x.sorted(-1), layings);
        for (int p = 0; p < row.length; p++) {
            is("place " + p + " of " + Arrays.toString(row), x.sorted(p), row[p]);
        }
    }

    private void sortedThree() {
        says(36, "the one that rises stands between the others, the lesser number of these ahead");
        sorted(weighing(1, 2, 3), 1, 0, 1, 2);
        sorted(weighing(3, 2, 1), 1, 0, 1, 2);
        sorted(weighing(1, 3, 2), 1, 0, 2, 1);
        sorted(weighing(2, 3, 1), 1, 1, 0, 2);
        sorted(weighing(2, 1, 3), 1, 1, 0, 2);
        sorted(weighing(3, 1, 2), 1, 0, 2, 1);
    }

    private void sortedHighIsLowAndOne() {
        says(36, "if HIGH is LOW and 1: it is laid with the row's THINGS at places LOW less 1 and LOW (0 and 1, if LOW is 0)");
        // 3 into 0 1 2: laid with 0 and 2; if it rises, LOW is 1 and HIGH is 2, and it is laid with 0 and 1.
        sorted(weighing(10, 20, 30, 5), 2, 3, 0, 1, 2);
        sorted(weighing(10, 20, 30, 15), 3, 0, 3, 1, 2);
        sorted(weighing(10, 20, 30, 25), 3, 0, 1, 3, 2);
        sorted(weighing(10, 20, 30, 35), 2, 0, 1, 2, 3);
        says(36, "if LOW is 0: LOW is 1, if it rises itself, else HIGH is 0; else: HIGH is LOW, if it rises itself, else LOW is HIGH");
        // 5 into 0 1 2 3 4: laid with 1 and 3; if 1 rises, LOW is 0 and HIGH is 1; if 3 does, LOW is 4 and HIGH is 5.
        sorted(weighing(10, 20, 30, 40, 50, 5), 5, 5, 0, 1, 2, 3, 4);
        sorted(weighing(10, 20, 30, 40, 50, 15), 5, 0, 5, 1, 2, 3, 4);
        sorted(weighing(10, 20, 30, 40, 50, 25), 5, 0, 1, 5, 2, 3, 4);
        sorted(weighing(10, 20, 30, 40, 50, 35), 5, 0, 1, 2, 5, 3, 4);
        sorted(weighing(10, 20, 30, 40, 50, 45), 5, 0, 1, 2, 3, 5, 4);
        sorted(weighing(10, 20, 30, 40, 50, 55), 5, 0, 1, 2, 3, 4, 5);
    }

    private void sortedByThirds() {
        says(36, "third is HIGH less LOW less 2, by 3, rounded down; it is laid with those at places I, LOW and third, "
            + "and J, HIGH less 1 less third");
        // 4 into 0 1 2 3: third is 0: laid with 0 and 3; if it rises, LOW is 1 and HIGH is 3: laid with 1 and 2.
        sorted(weighing(10, 20, 30, 40, 5), 3, 4, 0, 1, 2, 3);
        sorted(weighing(10, 20, 30, 40, 15), 4, 0, 4, 1, 2, 3);
        sorted(weighing(10, 20, 30, 40, 25), 4, 0, 1, 4, 2, 3);
        sorted(weighing(10, 20, 30, 40, 35), 4, 0, 1, 2, 4, 3);
        sorted(weighing(10, 20, 30, 40, 45), 3, 0, 1, 2, 3, 4);
        // 6 into 0 to 5: third is 1: laid with 1 and 4; if it rises, LOW is 2 and HIGH is 4: laid with 2 and 3.
        sorted(weighing(10, 20, 30, 40, 50, 60, 5), 7, 6, 0, 1, 2, 3, 4, 5);
        sorted(weighing(10, 20, 30, 40, 50, 60, 15), 7, 0, 6, 1, 2, 3, 4, 5);
        sorted(weighing(10, 20, 30, 40, 50, 60, 25), 7, 0, 1, 6, 2, 3, 4, 5);
        sorted(weighing(10, 20, 30, 40, 50, 60, 35), 7, 0, 1, 2, 6, 3, 4, 5);
        sorted(weighing(10, 20, 30, 40, 50, 60, 45), 7, 0, 1, 2, 3, 6, 4, 5);
        sorted(weighing(10, 20, 30, 40, 50, 60, 55), 7, 0, 1, 2, 3, 4, 6, 5);
        sorted(weighing(10, 20, 30, 40, 50, 60, 65), 7, 0, 1, 2, 3, 4, 5, 6);
        says(36, "Then 3, 4, .. one after another into the row of k THINGS: LOW is 0, HIGH is k.");
        sorted(weighing(70, 60, 50, 40, 30, 20, 10), 7, 0, 1, 2, 3, 4, 5, 6);
        // The heaviest first, as 0, 1 and 2 came out: 2 0 1 backwards is 1 0 2.
        sorted(weighing(20, 30, 10, 25), 3, 1, 3, 0, 2);
        sorted(weighing(20, 10, 30, 25), 3, 1, 0, 3, 2);
    }

    private void sortedAlike() {
        says(36, "who weighs alike counts by numbers (the greater is the heavier)");
        sorted(of(3), 1, 0, 1, 2);
        sorted(of(7), 7, 0, 1, 2, 3, 4, 5, 6);
        sorted(weighing(5, 5, 1), 1, 1, 0, 2);
        sorted(weighing(1, 5, 5, 5), 2, 0, 1, 2, 3);
        sorted(weighing(1, 5, 9, 5), 3, 0, 1, 3, 2);
        sorted(weighing(999, 999, 0, 999), 2, 3, 1, 0, 2);
        is("without scales", new MiddleScale().sorted(-1), 1);
        is("notes do not count", noted(3, 0, 7, 2).sorted(1), 1);
    }

    private void sortedNoPlace() {
        says(36, "IndexOutOfBoundsException: there is no such place");
        for (int n = 3; n <= 7; n++) {
            int things = n;
            is("the last place of " + n, of(n).sorted(n - 1), n - 1);
            is("the first place of " + n, of(n).sorted(0), 0);
            int[] none = Arrays.stream(beside(n - 1)).filter(p -> p != MiddleScale.NONE).toArray();
            refusesAll("sorted of " + n, OUTSIDE, none, () -> of(things), (x, place) -> x.sorted(place));
        }
        says(36, "how many LAYINGS (place NONE)");
        is("of three", of(3).sorted(-1), 1);
        is("of four", of(4).sorted(-1), 2);
        MiddleScale x = weighing(10, 20, 30, 15);
        is("asked", x.sorted(-1), 3);
        is("asked again", x.sorted(-1), 3);
        x.weight(3, 5);
        is("of other weights", x.sorted(-1), 2);
        is("their row", x.sorted(0), 3);
    }

    // ---- promise 38

    private void played(String call, MiddleScale x, int scale, int wrong, int seed, int... due) {
        for (int what = 0; what <= 2; what++) {
            is(call + ", what " + what, x.played(scale, wrong, seed, what), due[what]);
        }
    }

    private void playedDraws() {
        says(38, "bits 16 to 30 modulo 100: if it is below a told number (0 to 99), the wrong one rises");
        // Seed 0: 12345, a draw of 0.
        played("0 is not below 0", weighing(30, 20, 10), 0, 0, 0, 1, 2, 1);
        played("0 is below 1", weighing(30, 20, 10), 0, 1, 0, 1, 2, 0);
        // Seed 1: 1103527590, bits 16 to 30 are 16838: a draw of 38.
        played("38 is not below 37", weighing(30, 20, 10), 0, 37, 1, 1, 2, 1);
        played("38 is not below 38", weighing(30, 20, 10), 0, 38, 1, 1, 2, 1);
        played("38 is below 39", weighing(30, 20, 10), 0, 39, 1, 1, 2, 0);
        int of99 = seedOf(99);
        int of98 = seedOf(98);
        played("99 is not below 99", weighing(30, 20, 10), 0, 99, of99, 1, 2, 1);
        played("98 is below 99", weighing(30, 20, 10), 0, 99, of98, 1, 2, 0);
        played("98 is not below 98", weighing(30, 20, 10), 0, 98, of98, 1, 2, 1);
    }

    /** The least seed whose first draw is this. */
    private static int seedOf(int draw) {
        int seed = 0;
        while (drawOf(step(seed)) != draw) {
            seed++;
        }
        return seed;
    }

    /** By long numbers, so that nothing goes round unseen. */
    private static int step(int seed) {
        long told = seed & 0xffffffffL;
        return (int) ((told * 1103515245L % 4294967296L + 12345L) % 4294967296L);
    }

    private static int drawOf(int seed) {
        return (int) ((seed & 0xffffffffL) / 65536 % 32768 % 100);
    }

    private void playedGoesRound() {
        says(38, "SEED is 1103515245 times SEED and 12345, as an int that goes round");
        // Seed -1: 3191464396 without a sign, bits 16 to 30 are 15929: a draw of 29.
        played("29 is not below 29", weighing(30, 20, 10), 0, 29, -1, 1, 2, 1);
        played("29 is below 30", weighing(30, 20, 10), 0, 30, -1, 1, 2, 0);
        played("so with the greatest seed", weighing(30, 20, 10), 0, 29, MOST, 1, 2, 1);
        played("29 is below 30", weighing(30, 20, 10), 0, 30, MOST, 1, 2, 0);
        // The least seed: only bit 31 is set beside 12345, which is none of bits 16 to 30.
        played("0 is not below 0", weighing(30, 20, 10), 0, 0, LEAST, 1, 2, 1);
        played("0 is below 1", weighing(30, 20, 10), 0, 1, LEAST, 1, 2, 0);
        // The same seed is told each time.
        MiddleScale x = weighing(30, 20, 10);
        is("asked", x.played(0, 39, 1, 2), 0);
        is("asked again", x.played(0, 39, 1, 2), 0);
    }

    private void playedWrongOnes() {
        says(38, "the THING behind the right one in rising order of the set (the first behind the last)");
        // 1 between 0 and 2, and between 0 and 3: NEXT lays 0, 2 and 3, of which 0 cannot rise.
        MiddleScale x = weights(noted(4, 0, 7, 1, 0, 11, 1), 10, 20, 30, 40);
        is("0, 2 and 3 are laid", x.next(0), 13);
        is("the right one is 2", x.rises(0, 13), 2);
        played("behind 2 comes 3", x, 0, 1, 0, 1, 2, 0);
        MiddleScale y = weights(noted(4, 0, 7, 1, 0, 11, 1), 10, 20, 40, 30);
        is("the right one is 3", y.rises(0, 13), 3);
        played("behind 3 comes 0: no rows", y, 0, 1, 0, 1, 0, 0);
        played("none is wrong", y, 0, 0, 0, 1, 2, 1);
        played("the lesser of two, too", weighing(1, 2, 3), 2, 1, 0, playedByTree(weighing(1, 2, 3), 2, 1, 0));
    }

    private void playedStops() {
        says(38, "until ROWS are none, or KNOWN, or it parts nothing");
        played("none", noRows(4), 0, 0, 1, 0, 0, 0);
        played("one row, which is the true one", oneRow(4), 2, 0, 1, 0, 1, 1);
        played("one row, which is not", weights(oneRow(4), 1, 0), 2, 0, 1, 0, 1, 0);
        played("one row and its mirror", twoMirrors(4), 2, 0, 1, 0, 2, 1);
        played("it parts nothing more", of(4), 1, 0, 1, 1, 6, 1);
        played("it parts nothing from the begin", noted(4, 1, 15, 2), 1, 0, 1, 0, 6, 1);
        played("fewer things than pans", of(3), 1, 99, 1, 0, 6, 1);
        played("until one row", of(3), 2, 0, 1, 3, 1, 1);
        says(38, "whether the true ROW is among them");
        played("it was never left", noted(3, 2, 3, 0), 2, 0, 1, playedByTree(noted(3, 2, 3, 0), 2, 0, 1));
        is("though no weighing was wrong", noted(3, 2, 3, 0).played(2, 0, 1, 2), 0);
        is("nothing is changed", unchanged(), true);
    }

    private static boolean unchanged() {
        MiddleScale x = weighing(3, 1, 2, 4);
        String before = state(x);
        for (int what = 0; what <= 2; what++) {
            x.played(2, 50, 7, what);
        }
        return before.equals(state(x));
    }

    /** What a play comes to, found by the tree of the same layings. */
    private static int[] playedByTree(MiddleScale x, int scale, int wrong, int seed) {
        StringBuilder way = new StringBuilder();
        boolean right = true;
        int draw = seed;
        for (int set = treeOf(x, "", scale, true); set != -1; set = treeOf(x, way.toString(), scale, true)) {
            draw = step(draw);
            int rose = x.rises(scale, set);
            if (drawOf(draw) < wrong) {
                right = false;
                rose = behind(set, rose);
            }
            way.append(rose);
        }
        int rows = treeOf(x, way.toString(), scale, false);
        boolean left = right && fitsRow(x, trueRow(x));
        return new int[] {way.length(), rows, left ? 1 : 0};
    }

    private static int behind(int set, int thing) {
        int higher = set >> thing + 1 << thing + 1;
        return Integer.numberOfTrailingZeros(higher != 0 ? higher : set);
    }

    /** Things by how many others are lighter: scale 2 tells which of two is the heavier. */
    private static String trueRow(MiddleScale x) {
        char[] row = new char[x.count(0)];
        for (int t = 0; t < row.length; t++) {
            int lighter = 0;
            for (int u = 0; u < row.length; u++) {
                lighter += u != t && x.rises(2, 1 << t | 1 << u) == t ? 1 : 0;
            }
            row[lighter] = (char) ('0' + t);
        }
        return new String(row);
    }

    private void playedByHand() {
        says(38, "NEXT of a SCALE is laid (of ROWS LEFT, then of those of them by which what rises would)");
        int[][] weights = {{3, 1, 2}, {1, 2, 3, 4}, {4, 3, 2, 1}, {7, 7, 7, 7, 7}, {5, 1, 4, 2, 3}, {2, 4, 6, 1, 3, 5}};
        for (int[] weigh : weights) {
            for (int scale = 0; scale < 3; scale++) {
                for (int wrong : new int[] {0, 1, 30, 60, 99}) {
                    for (int seed : new int[] {0, 1, 12, -5, 99999, LEAST}) {
                        String call = Arrays.toString(weigh) + " on " + scale + ", " + wrong + " wrong, seed " + seed;
                        MiddleScale x = weights(of(weigh.length), weigh);
                        played(call, x, scale, wrong, seed, playedByTree(x, scale, wrong, seed));
                        MiddleScale y = weights(noted(weigh.length, 2, 3, 1), weigh);
                        played("noted " + call, y, scale, wrong, seed, playedByTree(y, scale, wrong, seed));
                    }
                }
            }
        }
    }

    private void playedOnNoScale() {
        says(38, "IndexOutOfBoundsException: there is no such THING, SCALE, NOTE.");
        refusesAll("played on", OUTSIDE, beside(2), () -> of(4), (x, s) -> x.played(s, 0, 0, 0));
        refuses("played(3, 100, 0, 3), told first", OUTSIDE, () -> of(4), x -> x.played(3, 100, 0, 3));
        refuses("played(0, 0, 0, 0) without scales", OUTSIDE, MiddleScale::new, x -> x.played(0, 0, 0, 0));
    }

    private void playedNoNumber() {
        says(38, "IllegalArgumentException: the told number is none");
        int[] none = {-1, -99, 100, 101, 256, LEAST, MOST};
        refusesAll("played with", ILLEGAL, none, () -> of(4), (x, wrong) -> x.played(0, wrong, 0, 0));
        refusesAll("played for no what, told first, with", ILLEGAL, none, () -> of(4), (x, n) -> x.played(0, n, 0, 3));
        is("the least", of(3).played(0, 0, 0, 0), 1);
        is("the most", of(3).played(0, 99, 0, 0), 1);
    }

    private void playedAnotherWhat() {
        says(38, "NoSuchElementException: another what");
        refusesAll("played for", ANOTHER, beside(2), () -> of(4), (x, what) -> x.played(0, 0, 0, what));
        refusesAll("played without rows for", ANOTHER, beside(2), () -> noRows(4), (x, what) -> x.played(0, 0, 0, what));
    }
}
