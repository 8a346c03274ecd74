/** Boundaries of notes that cannot be together: promises 23 to 26, 28 and 45. */
final class NoteBoundaries extends Boundaries {
    NoteBoundaries(Due due, Book book) {
        super(due, book);
    }

    @Override
    void look() {
        quarrelsOfNotes();
        noProof();
        proofWhateverLies();
        leastProof();
        firstOfProofs();
        wronglyAlone();
        wronglyOfLies();
        mendsOfNoNote();
        mendsByAnother();
        votesOfNotes();
        votesWithout();
        votesAlike();
        votesOfNoThree();
        needlessNotes();
    }

    /** So many of seven things in a ring, each heavier than the one ahead. */
    private static MiddleScale ring(int things) {
        MiddleScale x = of(7);
        for (int t = 0; t < things; t++) {
            int next = (t + 1) % things;
            x.note(2, 1 << t | 1 << next, next);
        }
        return x;
    }

    // ---- promises 23 and 24

    private void quarrelsOfNotes() {
        says(23, "pairs of NOTES which no ROW FITS both");
        is("without notes", of(4).quarrels(), 0);
        is("one note", noted(4, 0, 7, 1).quarrels(), 0);
        is("the same twice", noted(4, 0, 7, 1, 0, 7, 1).quarrels(), 0);
        is("two of one three", noted(4, 0, 7, 1, 0, 7, 2).quarrels(), 1);
        is("all three of it", noted(4, 0, 7, 1, 0, 7, 2, 0, 7, 0).quarrels(), 3);
        is("a ring of three: each two can be together", noted(4, 2, 3, 1, 2, 6, 2, 2, 5, 0).quarrels(), 0);
        is("three of two kinds: each two can be together", noted(3, 0, 7, 1, 2, 3, 1, 2, 6, 1).quarrels(), 0);
        is("of kind 1", noted(4, 1, 15, 1, 1, 15, 2).quarrels(), 1);
        MiddleScale x = of(4);
        for (int i = 0; i < 16; i++) {
            x.note(2, 3, i % 2);
        }
        is("eight against eight", x.quarrels(), 64);
        is("15 with the first alone", firstAgainstAll().quarrels(), 15);
        is("15 with the last alone", lastAgainstAll().quarrels(), 15);
        is("whatever lies", lying(3, 2, 3, 3, 0, 3, 1).quarrels(), 1);
        is("between two scales", betweenScales().quarrels(), 1);
    }

    private static MiddleScale betweenScales() {
        MiddleScale x = noted(3, 2, 3, 1);
        x.scale(2, 0, 0);
        x.note(3, 3, 0);
        return x;
    }

    private static MiddleScale firstAgainstAll() {
        MiddleScale x = noted(4, 2, 3, 0);
        for (int i = 0; i < 15; i++) {
            x.note(2, 3, 1);
        }
        return x;
    }

    private static MiddleScale lastAgainstAll() {
        MiddleScale x = fullOfNotes(4);
        x.drop(15);
        x.note(2, 3, 0);
        return x;
    }

    private void noProof() {
        says(24, "PROOF, as bits of NOTES; 0 without.");
        is("without notes", of(4).proof(), 0);
        is("one note", noted(4, 0, 7, 1).proof(), 0);
        is("16 that are together", fullOfNotes(4).proof(), 0);
        is("one row", oneRow(7).proof(), 0);
        is("the first and the last", lastAgainstAll().proof(), 1 | 1 << 15);
        is("the first and the second", firstAgainstAll().proof(), 3);
    }

    private void proofWhateverLies() {
        says(24, "the least set of NOTES (whatever LIES) all of which no ROW FITS");
        is("two that quarrel, though rows are left", lying(3, 2, 3, 3, 0, 3, 1).proof(), 3);
        is("rows are left", lying(3, 2, 3, 3, 0, 3, 1).rows(), 6);
        is("between two scales", betweenScales().proof(), 3);
        for (int n = 3; n <= 7; n++) {
            is("a ring of " + n, ring(n).proof(), (1 << n) - 1);
        }
    }

    private void leastProof() {
        says(24, "the least set of NOTES");
        MiddleScale x = noted(4, 2, 3, 1, 2, 6, 2);
        is("none yet", x.proof(), 0);
        x.note(2, 5, 0);
        is("then three", x.proof(), 7);
        x.note(2, 6, 1);
        is("then two of four", x.proof(), 0b1010);
        x.drop(1);
        is("none of those left", x.proof(), 0);
        is("a pair behind a ring of three", noted(4, 2, 3, 1, 2, 6, 2, 2, 5, 0, 2, 12, 2, 2, 12, 3).proof(), 0b11000);
        is("a ring of three behind one of four",
            noted(7, 2, 3, 1, 2, 6, 2, 2, 12, 3, 2, 9, 0, 2, 48, 5, 2, 96, 6, 2, 80, 4).proof(), 0b1110000);
        is("without one alike in a ring", noted(4, 2, 3, 1, 2, 3, 1, 2, 6, 2, 2, 5, 0).proof(), 0b1101);
        is("without those that tell nothing more", noted(4, 2, 3, 1, 2, 3, 1, 2, 12, 3, 2, 3, 0).proof(), 0b1001);
    }

    private void firstOfProofs() {
        says(24, "of several the one with the least first NOTE, then the least second, and so on; none");
        is("the least first", noted(4, 2, 12, 2, 2, 3, 1, 2, 3, 0, 2, 12, 3).proof(), 0b1001);
        is("the least second", noted(4, 2, 3, 1, 2, 3, 0, 2, 3, 0).proof(), 0b11);
        is("the least second, though it is not the next", noted(4, 2, 3, 1, 2, 12, 2, 2, 3, 0, 2, 3, 0).proof(), 0b101);
        is("of rings the least third",
            noted(4, 2, 3, 1, 2, 6, 2, 2, 9, 3, 2, 5, 0, 2, 5, 0).proof(), 0b1011);
        // Notes 0, 2 and 3, or notes 0, 1 and 4.
        is("the least second ahead of the least third",
            noted(4, 2, 3, 1, 2, 10, 3, 2, 6, 2, 2, 5, 0, 2, 9, 0).proof(), 0b10011);
    }

    // ---- promises 25 and 26

    private void wronglyAlone() {
        says(25, "NOTES without each of which alone (LIES as told) there are ROWS LEFT");
        is("without notes", of(4).wrongly(), 0);
        is("with rows left: each", noted(4, 2, 3, 1, 2, 6, 2).wrongly(), 3);
        is("one note", noted(4, 2, 3, 1).wrongly(), 1);
        is("either of two", noRows(4).wrongly(), 3);
        is("one against two", noted(4, 2, 3, 1, 2, 3, 1, 2, 3, 0).wrongly(), 4);
        is("two against two", noted(4, 2, 3, 1, 2, 3, 1, 2, 3, 0, 2, 3, 0).wrongly(), 0);
        is("each of a ring of seven", ring(7).wrongly(), 127);
        is("the first of 16", firstAgainstAll().wrongly(), 1);
        is("the last of 16", lastAgainstAll().wrongly(), 1 << 15);
        is("not what stands beside", noted(4, 2, 3, 1, 2, 12, 2, 2, 3, 0).wrongly(), 5);
        MiddleScale x = noRows(4);
        x.wrongly();
        is("the notes are still there", x.count(2), 2);
        is("and no rows", x.rows(), 0);
    }

    private void wronglyOfLies() {
        says(25, "(LIES as told)");
        is("one lie is borne: all are", lying(3, 2, 1, 3, 1, 3, 0).wrongly(), 3);
        // Two for it and two against it, one lie: without one there are two and one.
        is("one lie is borne, one note away", lying(3, 2, 1, 3, 1, 3, 1, 3, 0, 3, 0).wrongly(), 15);
        is("three and three: one lie and one away are too few",
            lying(3, 2, 1, 3, 1, 3, 1, 3, 1, 3, 0, 3, 0, 3, 0).wrongly(), 0);
        is("three and two, one lie: either of the two",
            lying(3, 2, 1, 3, 1, 3, 1, 3, 1, 3, 0, 3, 0).wrongly(), 0b11000);
    }

    private void mendsOfNoNote() {
        says(26, "IndexOutOfBoundsException: there is no such THING, SCALE, NOTE.");
        refusesAll("mends", OUTSIDE, beside(1), () -> noRows(4), (x, i) -> x.mends(i));
        refusesAll("mends of 16", OUTSIDE, beside(15), () -> fullOfNotes(4), (x, i) -> x.mends(i));
        refuses("mends(0) without notes", OUTSIDE, () -> of(4), x -> x.mends(0));
    }

    private void mendsByAnother() {
        says(26, "which other one of its THINGS, had it risen, would leave ROWS (bits of THINGS)");
        is("not the one that rose, with rows left", noted(4, 2, 3, 1).mends(0), 1);
        is("both others of three", noted(4, 0, 7, 1).mends(0), 5);
        is("the three others of four", noted(4, 1, 15, 3).mends(0), 7);
        is("only those on it", noted(5, 0, 28, 3).mends(0), 20);
        is("of two that quarrel the first", noRows(4).mends(0), 1);
        is("of two that quarrel the second", noRows(4).mends(1), 2);
        is("one that mends nothing", noted(4, 2, 3, 1, 2, 3, 0, 2, 12, 3).mends(2), 0);
        is("one of two others", noted(3, 0, 7, 1, 0, 7, 0, 2, 3, 1).mends(0), 1);
        is("the last of 16", lastAgainstAll().mends(15), 2);
        is("the first of 16", firstAgainstAll().mends(0), 2);
        is("no other one", fullOfNotes(4).mends(3), 0);
        is("with a lie", lying(3, 2, 1, 3, 1, 3, 1).mends(0), 1);
        is("with a lie, then three against one", lying(3, 2, 1, 3, 1, 3, 1, 3, 0, 3, 0).mends(0), 1);
        is("with a lie, then four against two", lying(3, 2, 1, 3, 1, 3, 1, 3, 1, 3, 0, 3, 0, 3, 0).mends(0), 0);
        MiddleScale x = noRows(4);
        x.mends(0);
        is("what rose is as it was", x.look(0, 2), 1);
        is("and so are the rows", x.rows(), 0);
        is("other calls behind it", x.quarrels(), 1);
    }

    // ---- promise 28

    private void votesOfNotes() {
        says(28, "of the NOTES with just these three THINGS on SCALES of KIND 0: which ROSE most often");
        for (int t = 0; t < 3; t++) {
            is("one vote for " + t, noted(4, 0, 7, t).votes(7), t);
        }
        is("the last three of seven", noted(7, 0, 7 << 4, 6).votes(7 << 4), 6);
        is("two against one", noted(4, 0, 7, 1, 0, 7, 2, 0, 7, 1).votes(7), 1);
        is("two against one, which came first", noted(4, 0, 7, 2, 0, 7, 1, 0, 7, 1).votes(7), 1);
        is("two against one and one", noted(4, 0, 7, 0, 0, 7, 1, 0, 7, 2, 0, 7, 2).votes(7), 2);
        is("other threes do not count", noted(4, 0, 7, 1, 0, 11, 0, 0, 11, 0).votes(7), 1);
        is("other kinds do not count", noted(4, 0, 7, 1, 1, 15, 0, 1, 15, 0, 2, 3, 0, 2, 3, 0).votes(7), 1);
        MiddleScale x = noted(4, 0, 7, 0, 0, 7, 0);
        x.scale(0, 0, 3);
        for (int i = 0; i < 3; i++) {
            x.note(3, 7, 2);
        }
        is("on another scale, though it lies", x.votes(7), 2);
        x.note(0, 7, 0);
        x.note(0, 7, 0);
        is("on both scales together", x.votes(7), 0);
        MiddleScale y = of(4);
        for (int i = 0; i < 16; i++) {
            y.note(0, 7, i < 9 ? 1 : 0);
        }
        is("nine against seven", y.votes(7), 1);
    }

    private void votesWithout() {
        says(28, "none without");
        is("without notes", of(4).votes(7), -1);
        is("notes on other threes", noted(4, 0, 7, 1, 0, 14, 2).votes(13), -1);
        is("notes on other kinds", noted(4, 1, 15, 1, 2, 3, 1, 2, 6, 1).votes(7), -1);
        is("a note put away", dropped().votes(7), -1);
    }

    private static MiddleScale dropped() {
        MiddleScale x = noted(4, 0, 7, 1);
        x.drop(0);
        return x;
    }

    private void votesAlike() {
        says(28, "or if two did most often");
        is("one and one", noted(4, 0, 7, 1, 0, 7, 2).votes(7), -1);
        is("one and one, the first and the last", noted(4, 0, 7, 0, 0, 7, 2).votes(7), -1);
        is("one of each", noted(4, 0, 7, 1, 0, 7, 2, 0, 7, 0).votes(7), -1);
        is("two and two and one", noted(4, 0, 7, 1, 0, 7, 2, 0, 7, 1, 0, 7, 2, 0, 7, 0).votes(7), -1);
        is("two and one and one: not these", noted(4, 0, 7, 1, 0, 7, 2, 0, 7, 1, 0, 7, 0).votes(7), 1);
        MiddleScale x = of(4);
        for (int i = 0; i < 16; i++) {
            x.note(0, 7, i % 2);
        }
        is("eight and eight", x.votes(7), -1);
    }

    private void votesOfNoThree() {
        says(28, "IllegalArgumentException: the set has not three THINGS");
        for (int set = 0; set < 16; set++) {
            int told = set;
            if (Integer.bitCount(set) != 3) {
                refuses("votes(" + set + ")", ILLEGAL, () -> noted(4, 0, 7, 1), x -> x.votes(told));
            }
        }
        int[] others = {19, 3 | 1 << 30, 3 | 1 << 31, 7 | 1 << 4, 7 | 1 << 31, 7 << 4, -1, LEAST, MOST};
        refusesAll("votes", ILLEGAL, others, () -> noted(4, 0, 7, 1), (x, set) -> x.votes(set));
        refusesAll("votes of three things", ILLEGAL, new int[] {11, 13, 14}, () -> of(3), (x, set) -> x.votes(set));
    }

    // ---- promise 45

    private void needlessNotes() {
        says(45, "NOTES each of which alone, put away, would leave the same ROWS");
        is("without notes", of(4).needless(), 0);
        is("one that tells something", noted(4, 2, 3, 1).needless(), 0);
        is("either of two alike", noted(4, 2, 3, 1, 2, 3, 1).needless(), 3);
        is("each of 16 alike", fullOfNotes(4).needless(), 0xffff);
        is("one that follows", noted(4, 2, 3, 1, 2, 6, 2, 2, 5, 2).needless(), 4);
        is("one that follows, told first", noted(4, 2, 5, 2, 2, 3, 1, 2, 6, 2).needless(), 1);
        is("none of a chain", oneRow(7).needless(), 0);
        is("a lie may be: it tells nothing", lying(3, 2, 1, 3, 1).needless(), 1);
        is("a second one tells", lying(3, 2, 1, 3, 1, 3, 1).needless(), 0);
        is("a third is one too many", lying(3, 2, 1, 3, 1, 3, 1, 3, 1).needless(), 7);
        is("without rows: either brings some back", noRows(4).needless(), 0);
        is("without rows: those that bring none back", noted(4, 2, 3, 1, 2, 12, 2, 2, 3, 0).needless(), 2);
        is("the first of 16 is not", firstAgainstAll().needless(), 0xfffe);
        is("the last of 16 is not", lastAgainstAll().needless(), 0x7fff);
        MiddleScale x = noted(4, 2, 3, 1, 2, 3, 1);
        x.needless();
        is("the notes are still there", x.count(2), 2);
    }
}
