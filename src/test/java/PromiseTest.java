import java.util.Arrays;

/** Each promise by hand: ordinary inputs, the edges that the document names, wrong inputs. */
public final class PromiseTest extends Sheds {
    private final Due due = new Due();

    public static void main(String[] args) {
        PromiseTest t = new PromiseTest();
        t.newObject();
        t.feedAndEnd();
        t.shed();
        t.faults();
        t.faultsOfNotes();
        t.roomOfTexts();
        t.things();
        t.scale();
        t.weightAndRises();
        t.noteLookDrop();
        t.lies();
        t.rowsAndRow();
        t.fitsAndNearly();
        t.mayAndHeavier();
        t.placesEndsGooseCentre();
        t.known();
        t.quarrelsAndProof();
        t.wronglyAndMends();
        t.votes();
        t.laying();
        t.next();
        t.fewestAndBound();
        t.byNextMeanCheapest();
        t.wants();
        t.plain();
        t.sorted();
        t.grownAndLaid();
        t.played();
        t.sures();
        t.where();
        t.askedAgain();
        t.tree();
        t.needless();
        t.stands();
        t.imageAndBack();
        t.count();
        t.due.end();
    }

    // ---- helpers

    private void is(String call, Object got, Object want) {
        due.is(call, got, want);
    }

    private void throwsIt(String call, Class<? extends RuntimeException> want, Due.Call made) {
        due.throwsIt(call, want, made);
    }

    /** The text is wrong at a byte, and nothing of it stays. */
    private void wrongAt(String text, int at) {
        wrongAt(of(4), text, at);
    }

    private void wrongAt(MiddleScale x, String text, int at) {
        int[] before = new int[7];
        for (int what = 0; what < 7; what++) {
            before[what] = x.count(what);
        }
        tell(x, text);
        throwsIt("shed of '" + text + "'", ILLEGAL, x::shed);
        is("fault of '" + text + "'", x.fault(), at);
        for (int what = 0; what < 7; what++) {
            is("count(" + what + ") behind '" + text + "'", x.count(what), before[what]);
        }
        is("the tape behind '" + text + "'", x.end(1), false);
    }

    // ---- promises 1 to 5

    private void newObject() {
        MiddleScale x = new MiddleScale();
        is("NONE", MiddleScale.NONE, -1);
        is("things of a new one", x.count(0), 3);
        is("scales of a new one", x.count(1), 0);
        is("notes of a new one", x.count(2), 0);
        is("texts of a new one", x.count(3), 0);
        is("coin of a new one", x.count(4), 0);
        is("fault of a new one", x.fault(), -1);
        is("weight of a new one", x.weight(2, 5), 0);
        is("rows of a new one", x.rows(), 6);
        is("tape of a new one", x.end(1), false);
        is("image of a new one", x.back(), false);
    }

    private void feedAndEnd() {
        MiddleScale x = new MiddleScale();
        for (int i = 1; i <= 20; i++) {
            is("feed " + i, x.feed(0x77656967, 0x68742030, 0x20333b20, 0x20202020, 0x20202020), 20 * i);
        }
        is("feed beyond 400", x.feed(0, 0, 0, 0, 0), -1);
        is("end(401)", x.end(401), false);
        is("end(-1)", x.end(-1), false);
        is("end(400)", x.end(400), true);
        is("end(381)", x.end(381), true);
        is("feed onto 381", x.feed(0, 0, 0, 0, 0), -1);
        is("end(380)", x.end(380), true);
        is("feed onto 380", x.feed(0, 0, 0, 0, 0), 400);
        is("end(10)", x.end(10), true);
        is("end(11) of 10", x.end(11), false);
        is("shed of 'weight 0 3'", x.shed(), 1);
        is("the weight, highest byte first", x.weight(0, 0), 3);
        is("end(0) of none", x.end(0), true);
        tell(x, "weight 0 55scalexweight 0");
        x.end(10);
        is("what was cut off does not count: digits", x.shed(), 2);
        is("the weight of one digit", x.weight(0, 0), 5);
        tell(x, "scalexyz");
        x.end(5);
        throwsIt("what was cut off does not count: letters", ILLEGAL, x::shed);
        is("more must come", x.fault(), 5);
        x.feed(0x80ffff30, -1, 0, 0, 0);
        x.end(4);
        throwsIt("bytes above 127", ILLEGAL, x::shed);
        is("fault of a byte above 127", x.fault(), 0);
    }

    private void shed() {
        MiddleScale x = new MiddleScale();
        is("a text of all lines", read(x, "things 5;scale three 5 1 ; scale four 99 3;scale two 0 0;weight 4 999;"
            + "note 0 4 2 0 rose 2;note 1 1 2 3 4 rose 4;note 2 1 0 rose 0"), 1);
        is("its things", x.count(0), 5);
        is("its scales", x.count(1), 3);
        is("its notes", x.count(2), 3);
        is("its coin", x.count(4), 104);
        is("its weight", x.weight(4, 0), 999);
        is("note 0 scale", x.look(0, 0), 0);
        is("note 0 set", x.look(0, 1), 0b10101);
        is("note 0 rose", x.look(0, 2), 2);
        is("note 1 set", x.look(1, 1), 0b11110);
        is("note 1 rose", x.look(1, 2), 4);
        is("note 2 set", x.look(2, 1), 3);
        is("fault of a right text", x.fault(), -1);
        is("an empty text", read(x, ""), 2);
        is("blanks alone", read(x, "    "), 3);
        is("no blanks but between numbers", read(x, "weight0 7;note2 0 1rose1;scale two1 1"), 4);
        is("weight 0", x.weight(0, 0), 7);
        is("blanks all about", read(x, "  weight  1   007  ;   weight 2 010 "), 5);
        is("weight 1", x.weight(1, 0), 7);
        is("weight 2", x.weight(2, 0), 10);
        is("the tape is used up", x.end(1), false);
        MiddleScale y = new MiddleScale();
        is("things twice", read(y, "things 7; weight 6 5; weight 2 4; things 4; things 7"), 1);
        is("weights of things that are no more", y.weight(6, 0), 0);
        is("weights of things that stay", y.weight(2, 0), 4);
        is("12 lines", read(y, "weight 0 1" + ";weight 0 2".repeat(11)), 2);
    }

    private void faults() {
        wrongAt("thing 4", 0);
        wrongAt(" thingsx 4", 1);
        wrongAt("xhings 4", 0);
        wrongAt("weight 0 1; xote 2 0 1 rose 1", 12);
        wrongAt("thingsz 4", 0);
        wrongAt("thingsa 4", 0);
        wrongAt("things`4", 6);
        wrongAt("things{4", 6);
        wrongAt("things :", 7);
        wrongAt("things /", 7);
        wrongAt("things", 6);
        wrongAt("things  ", 8);
        wrongAt("things 2", 7);
        wrongAt("things 8", 7);
        wrongAt("things 0003", 7);
        wrongAt("things x", 7);
        wrongAt("things 4 4", 9);
        wrongAt("things 4x", 8);
        wrongAt("things 4;", 9);
        wrongAt("things 4; ;", 10);
        wrongAt(";things 4", 0);
        wrongAt("4", 0);
        wrongAt("Things 4", 0);
        wrongAt("\tthings 4", 0);
        wrongAt("things\t4", 6);
        wrongAt("things -4", 7);
        wrongAt("scale", 5);
        wrongAt("scale five 1 0", 6);
        wrongAt("scale 3 1 0", 6);
        wrongAt("scale threes 1 0", 6);
        wrongAt("scale three", 11);
        wrongAt("scale three 100 0", 12);
        wrongAt("scale three 99", 14);
        wrongAt("scale three 99 4", 15);
        wrongAt("scale three 99 0 0", 17);
        wrongAt("weight 4 1", 7);
        wrongAt("weight 0 1000", 9);
        wrongAt("weight 0", 8);
        wrongAt("weight 3 999 ,", 13);
        wrongAt("weight 0 5; scale two 1 1; weight 9 9", 34);
        wrongAt("weight 0 5; things 7; note 0 0 1 6 rose 6; things 5", 43);
    }

    private void faultsOfNotes() {
        wrongAt("note", 4);
        wrongAt("note 3 0 1 rose 1", 5);
        wrongAt("note 0 0 1 4 rose 1", 11);
        wrongAt("note 0 0 1 0 rose 1", 11);
        wrongAt("note 0 0 1 rose 1", 11);
        wrongAt("note 0 0 1 2 3 rose 1", 13);
        wrongAt("note 0 0 1 2 ruse 1", 13);
        wrongAt("note 0 0 1 2 rose 3", 18);
        wrongAt("note 0 0 1 2 rose 4", 18);
        wrongAt("note 0 0 1 2 rose", 17);
        wrongAt("note 0 0 1 2", 12);
        wrongAt("note 2 0 1 2 rose 1", 11);
        wrongAt("note 1 0 1 2 rose 1", 13);
        MiddleScale x = new MiddleScale();
        wrongAt(x, "note 0 0 1 rose 1", 5);
        is("a scale that is there by then", read(x, "scale two 1 0; note 0 0 1 rose 1"), 1);
        wrongAt(x, "things 3", 0);
        wrongAt(x, "weight 0 1; things 4", 12);
        is("four pans for three things", read(x, "scale four 1 0"), 2);
        wrongAt(x, "note 1 0 1 2 3 rose 1", 13);
        wrongAt(x, "note 1 0 1 2 2 rose 1", 13);
    }

    private void roomOfTexts() {
        wrongAt("weight 0 1;".repeat(12) + " weight 0 1", 133);
        wrongAt("weight 0 1;".repeat(12), 132);
        wrongAt("weight 0 1;".repeat(12) + "pip", 132);
        wrongAt("scale two 1 0; scale two 1 0", 15);
        wrongAt("scale two 1 0; scale pip", 15);
        MiddleScale x = of(3);
        for (int i = 0; i < 16; i++) {
            x.note(2, 3, 1);
        }
        wrongAt(x, "note 2 0 1 rose 1", 0);
        MiddleScale y = new MiddleScale();
        for (int i = 1; i <= 8; i++) {
            is("text " + i, read(y, ""), i);
        }
        tell(y, "weight 0 5");
        throwsIt("a ninth text", FULL, y::shed);
        is("fault of a ninth text", y.fault(), -1);
        is("the tape behind a ninth text", y.end(1), false);
        is("a ninth text changes nothing", y.weight(0, 0), 0);
        wrongAt(y, "weight 0 5;", 11);
        is("texts", y.count(3), 8);
    }

    // ---- promises 6 to 12

    private void things() {
        MiddleScale x = new MiddleScale();
        throwsIt("things(2)", ILLEGAL, () -> call(() -> x.things(2)));
        throwsIt("things(8)", ILLEGAL, () -> call(() -> x.things(8)));
        int[] rows = {6, 24, 120, 720, 5040};
        for (int n = 3; n <= 7; n++) {
            x.things(n);
            is("count(0) of " + n, x.count(0), n);
            is("rows of " + n, x.rows(), rows[n - 3]);
        }
        weights(x, 1, 2, 3, 4, 5, 6, 7);
        x.things(4);
        x.things(7);
        is("a weight that stays", x.weight(3, 0), 4);
        is("a weight that is gone", x.weight(4, 0), 0);
        x.scale(2, 0, 0);
        x.note(0, 3, 0);
        throwsIt("things(7) with notes", STATE, () -> call(() -> x.things(7)));
        throwsIt("things(8) with notes", ILLEGAL, () -> call(() -> x.things(8)));
        x.drop(0);
        x.things(3);
        is("things without notes again", x.count(0), 3);
    }

    private void scale() {
        MiddleScale x = new MiddleScale();
        throwsIt("scale(-1, 0, 0)", ILLEGAL, () -> x.scale(-1, 0, 0));
        throwsIt("scale(3, 0, 0)", ILLEGAL, () -> x.scale(3, 0, 0));
        throwsIt("scale(0, -1, 0)", ILLEGAL, () -> x.scale(0, -1, 0));
        throwsIt("scale(0, 100, 0)", ILLEGAL, () -> x.scale(0, 100, 0));
        throwsIt("scale(0, 0, -1)", ILLEGAL, () -> x.scale(0, 0, -1));
        throwsIt("scale(0, 0, 4)", ILLEGAL, () -> x.scale(0, 0, 4));
        is("scale 0", x.scale(0, 0, 0), 0);
        is("scale 1", x.scale(1, 99, 3), 1);
        is("scale 2", x.scale(2, 5, 1), 2);
        is("scale 3", x.scale(2, 5, 1), 3);
        throwsIt("a fifth scale", FULL, () -> x.scale(0, 0, 0));
        throwsIt("a fifth scale of no kind", ILLEGAL, () -> x.scale(3, 0, 0));
        is("scales", x.count(1), 4);
    }

    private void weightAndRises() {
        MiddleScale x = of(4);
        throwsIt("weight(4, 0)", OUTSIDE, () -> x.weight(4, 0));
        throwsIt("weight(-1, 1000)", OUTSIDE, () -> x.weight(-1, 1000));
        throwsIt("weight(0, 1000)", ILLEGAL, () -> x.weight(0, 1000));
        throwsIt("weight(0, -1)", ILLEGAL, () -> x.weight(0, -1));
        is("weight(0, 999)", x.weight(0, 999), 0);
        is("weight(0, 0)", x.weight(0, 0), 999);
        is("alike: the middle by numbers", x.rises(0, 7), 1);
        is("alike: the second heaviest by numbers", x.rises(1, 15), 2);
        is("alike: the heavier by numbers", x.rises(2, 5), 2);
        weights(x, 40, 10, 20, 30);
        is("middle of 0 1 2", x.rises(0, 7), 2);
        is("middle of 0 2 3", x.rises(0, 13), 3);
        is("second of four", x.rises(1, 15), 3);
        is("heavier of 0 and 1", x.rises(2, 3), 0);
        throwsIt("rises(3, 7)", OUTSIDE, () -> x.rises(3, 7));
        throwsIt("rises(-1, 0)", OUTSIDE, () -> x.rises(-1, 0));
        throwsIt("rises(0, 15)", ILLEGAL, () -> x.rises(0, 15));
        throwsIt("rises(0, 3)", ILLEGAL, () -> x.rises(0, 3));
        throwsIt("rises(0, 19)", ILLEGAL, () -> x.rises(0, 19));
        throwsIt("rises(2, negative)", ILLEGAL, () -> x.rises(2, Integer.MIN_VALUE | 1));
    }

    private void noteLookDrop() {
        MiddleScale x = of(4);
        throwsIt("note(3, 7, 1)", OUTSIDE, () -> x.note(3, 7, 1));
        throwsIt("note(0, 3, 1)", ILLEGAL, () -> x.note(0, 3, 1));
        throwsIt("note(0, 7, 3)", ILLEGAL, () -> x.note(0, 7, 3));
        throwsIt("note(0, 7, -1)", ILLEGAL, () -> x.note(0, 7, -1));
        throwsIt("note(0, 7, 32)", ILLEGAL, () -> x.note(0, 7, 32));
        for (int i = 0; i < 16; i++) {
            is("note " + i, x.note(i % 3, new int[] {14, 15, 9}[i % 3], 3), i);
        }
        throwsIt("a 17th note", FULL, () -> x.note(0, 7, 1));
        throwsIt("a 17th note of what is not on it", ILLEGAL, () -> x.note(0, 7, 3));
        is("look(4, 0)", x.look(4, 0), 1);
        is("look(4, 1)", x.look(4, 1), 15);
        is("look(4, 2)", x.look(4, 2), 3);
        throwsIt("look(4, 3)", ANOTHER, () -> x.look(4, 3));
        throwsIt("look(4, -1)", ANOTHER, () -> x.look(4, -1));
        throwsIt("look(16, 3)", OUTSIDE, () -> x.look(16, 3));
        throwsIt("look(-1, 0)", OUTSIDE, () -> x.look(-1, 0));
        is("drop(4)", x.drop(4), 15);
        is("others move down", x.look(4, 0), 2);
        is("those ahead stay", x.look(3, 0), 0);
        is("drop(14)", x.drop(14), 14);
        throwsIt("drop(14) of 14", OUTSIDE, () -> x.drop(14));
        throwsIt("drop(-1)", OUTSIDE, () -> x.drop(-1));
        is("look(13, 1)", x.look(13, 1), 9);
    }

    private void lies() {
        for (int lies = 0; lies <= 3; lies++) {
            MiddleScale x = new MiddleScale();
            x.scale(2, 0, lies);
            x.scale(2, 0, 0);
            x.note(0, 3, 1);
            is("a first note, lies " + lies, x.rows(), lies == 0 ? 3 : 6);
            x.note(0, 3, 1);
            x.note(0, 3, 1);
            is("three notes, lies " + lies, x.rows(), lies == 3 ? 6 : 3);
            x.note(0, 3, 0);
            is("one against them, lies " + lies, x.rows(), lies == 0 ? 0 : lies == 3 ? 6 : 3);
            x.note(0, 3, 1);
            is("four for it, lies " + lies, x.rows(), lies == 0 ? 0 : 3);
            x.note(1, 6, 2);
            is("another scale does not lie, lies " + lies, x.rows(), lies == 0 ? 0 : 1);
        }
    }

    // ---- promises 13 to 22

    private void rowsAndRow() {
        MiddleScale x = of(4);
        is("rows of 4", x.rows(), 24);
        is("row 23 begins with", x.row(23, 0), 3);
        is("row 23 ends with", x.row(23, 3), 0);
        is("row 7, place 1", x.row(7, 1), 0);
        is("row 7, place 2", x.row(7, 2), 3);
        is("row 24", x.row(24, 0), -1);
        is("row -1", x.row(-1, 0), -1);
        throwsIt("row(0, 4)", OUTSIDE, () -> x.row(0, 4));
        throwsIt("row(99, -1)", OUTSIDE, () -> x.row(99, -1));
        x.note(1, 15, 3);
        is("second heaviest known", x.rows(), 6);
        is("row 0, place 2", x.row(0, 2), 3);
        is("row 5, place 0", x.row(5, 0), 2);
        MiddleScale y = of(7);
        is("the last of 5040 rows", y.row(5039, 0), 6);
        is("behind it", y.row(5040, 0), -1);
    }

    private void fitsAndNearly() {
        MiddleScale x = of(4);
        x.note(2, 3, 1);
        is("0123 fits", fitsRow(x, "0123"), true);
        is("the tape behind fits()", x.end(1), false);
        is("1023 does not", fitsRow(x, "1023"), false);
        is("nearly 1023", nearlyRow(x, "1023"), 1);
        is("the tape behind nearly()", x.end(1), false);
        is("nearly 1320", nearlyRow(x, "1320"), 3);
        is("nearly 3201", nearlyRow(x, "3201"), 0);
        for (String wrong : new String[] {"", "012", "01234", "0122", "0124", "012 ", "012/", "\u00ff123"}) {
            tell(x, wrong);
            throwsIt("fits '" + wrong + "'", ILLEGAL, x::fits);
            is("the tape behind it", x.end(1), false);
            tell(x, wrong);
            throwsIt("nearly '" + wrong + "'", ILLEGAL, x::nearly);
            is("the tape behind it", x.end(1), false);
        }
        x.note(2, 3, 0);
        is("nothing fits", fitsRow(x, "0123"), false);
        is("nearly nothing", nearlyRow(x, "0123"), -1);
        MiddleScale y = new MiddleScale();
        y.scale(2, 0, 1);
        y.note(0, 3, 1);
        is("a lie is borne", fitsRow(y, "102"), true);
        y.note(0, 3, 1);
        is("two are not", fitsRow(y, "102"), false);
        MiddleScale z = of(7);
        for (int t = 0; t < 6; t++) {
            z.note(2, 3 << t, t + 1);
        }
        is("all seven the other way round", nearlyRow(z, "6543210"), 21);
    }

    private void mayAndHeavier() {
        MiddleScale x = of(4);
        is("may(7)", x.may(7), 7);
        is("heavier(0, 1)", x.heavier(0, 1), -1);
        x.note(0, 7, 1);
        is("may(7) noted", x.may(7), 2);
        is("may(13)", x.may(13), 13);
        x.note(2, 3, 1);
        is("heavier(1, 0)", x.heavier(1, 0), 1);
        is("heavier(2, 0)", x.heavier(2, 0), 1);
        is("heavier(0, 2)", x.heavier(0, 2), 0);
        is("heavier(0, 3)", x.heavier(0, 3), -1);
        x.note(2, 12, 2);
        is("may(13) without 2 above", x.may(13), 9);
        for (int set : new int[] {0, 3, 15, 19, 16, -1, 7 | 1 << 20, Integer.MIN_VALUE | 3}) {
            throwsIt("may(" + set + ")", ILLEGAL, () -> x.may(set));
            throwsIt("votes(" + set + ")", ILLEGAL, () -> x.votes(set));
        }
        throwsIt("heavier(1, 1)", ILLEGAL, () -> x.heavier(1, 1));
        throwsIt("heavier(4, 4)", OUTSIDE, () -> x.heavier(4, 4));
        throwsIt("heavier(0, -1)", OUTSIDE, () -> x.heavier(0, -1));
        x.note(2, 3, 0);
        is("heavier without rows", x.heavier(1, 0), -1);
        is("may without rows", x.may(7), 0);
    }

    private void placesEndsGooseCentre() {
        MiddleScale x = of(4);
        is("places(0)", x.places(0), 15);
        is("ends()", x.ends(), 6);
        is("pair(0)", x.pair(0), 1);
        is("pair(5)", x.pair(5), 23);
        is("pair(6)", x.pair(6), -1);
        is("pair(-1)", x.pair(-1), -1);
        is("goose()", x.goose(), 0);
        is("centre()", x.centre(), 15);
        x.note(0, 7, 1);
        x.note(0, 14, 2);
        is("rows 0123 and 3210", x.rows(), 2);
        is("places(0) of two", x.places(0), 9);
        is("places(1) of two", x.places(1), 6);
        is("ends() of two", x.ends(), 1);
        is("pair(0) of two", x.pair(0), 3);
        is("pair(1) of two", x.pair(1), -1);
        is("goose() of two", x.goose(), 9);
        is("centre() of two: place 2", x.centre(), 6);
        throwsIt("places(4)", OUTSIDE, () -> x.places(4));
        throwsIt("places(-1)", OUTSIDE, () -> x.places(-1));
        x.note(0, 7, 0);
        is("places without rows", x.places(0), 0);
        is("ends without rows", x.ends(), 0);
        is("pair without rows", x.pair(0), -1);
        is("goose without rows", x.goose(), 0);
        is("centre without rows", x.centre(), 0);
    }

    private void known() {
        MiddleScale x = of(3);
        is("six rows", x.known(), false);
        x.note(0, 7, 0);
        is("a row and its mirror", x.known(), true);
        x.note(2, 6, 1);
        is("one row", x.known(), true);
        x.note(2, 6, 2);
        is("no row", x.known(), false);
        MiddleScale y = of(3);
        y.note(2, 3, 1);
        y.note(2, 5, 2);
        is("two rows that are no mirrors", y.rows(), 2);
        is("they are not known", y.known(), false);
        is("nor learnt by 0", y.fewest(0), 1);
        is("though the bound is 0", y.bound(0), 0);
    }

    // ---- promises 23 to 28

    private void quarrelsAndProof() {
        MiddleScale x = of(4);
        is("quarrels of none", x.quarrels(), 0);
        is("proof of none", x.proof(), 0);
        x.note(2, 9, 3);
        x.note(2, 3, 1);
        x.note(2, 6, 2);
        is("no proof", x.proof(), 0);
        x.note(2, 5, 0);
        is("a ring of three has no quarrel", x.quarrels(), 0);
        is("a ring of three is a proof", x.proof(), 0b1110);
        x.note(0, 7, 2);
        x.note(2, 12, 2);
        is("no quarrel of more", x.quarrels(), 0);
        is("of several the least first", x.proof(), 0b101001);
        x.note(2, 12, 3);
        x.note(2, 9, 0);
        is("two quarrels", x.quarrels(), 2);
        is("a pair is less than a ring", x.proof(), 0b10000001);
        MiddleScale y = new MiddleScale();
        y.scale(0, 0, 3);
        y.note(0, 7, 0);
        y.note(0, 7, 1);
        y.note(0, 7, 0);
        is("quarrels whatever lies", y.quarrels(), 2);
        is("proof whatever lies", y.proof(), 3);
        MiddleScale z = of(7);
        for (int t = 0; t < 7; t++) {
            z.note(2, 1 << t | 1 << (t + 1) % 7, (t + 1) % 7);
        }
        is("a ring of seven", z.proof(), 127);
    }

    private void wronglyAndMends() {
        MiddleScale x = of(4);
        x.note(2, 3, 1);
        x.note(2, 6, 2);
        is("with rows left all are", x.wrongly(), 3);
        is("mends(0)", x.mends(0), 1);
        x.note(2, 5, 0);
        is("each of a ring", x.wrongly(), 7);
        is("mends(2)", x.mends(2), 4);
        x.note(0, 7, 0);
        is("rows", x.rows(), 0);
        is("one that mends two", x.wrongly(), 0b0010);
        is("mends(3)", x.mends(3), 0);
        is("mends(1)", x.mends(1), 2);
        throwsIt("mends(4)", OUTSIDE, () -> x.mends(4));
        throwsIt("mends(-1)", OUTSIDE, () -> x.mends(-1));
        MiddleScale y = new MiddleScale();
        y.scale(0, 0, 1);
        y.note(0, 7, 0);
        y.note(0, 7, 1);
        y.note(0, 7, 2);
        is("lies as told", y.wrongly(), 7);
        is("mends with lies", y.mends(0), 6);
        is("wrongly of none", of(3).wrongly(), 0);
    }

    private void votes() {
        MiddleScale x = of(4);
        x.scale(0, 1, 0);
        is("votes of none", x.votes(7), -1);
        x.note(1, 15, 1);
        x.note(2, 3, 1);
        is("votes of others", x.votes(7), -1);
        x.note(0, 7, 2);
        is("one vote", x.votes(7), 2);
        x.note(3, 7, 0);
        is("two alike", x.votes(7), -1);
        x.note(3, 7, 0);
        is("two of one", x.votes(7), 0);
        x.note(0, 7, 1);
        is("less than most alike", x.votes(7), 0);
        is("another three", x.votes(14), -1);
    }

    // ---- promises 29 to 33

    private void laying() {
        MiddleScale x = of(4);
        is("worst of three", x.laying(0, 7, false), 8);
        is("spread of three", x.laying(0, 7, true), 192);
        is("worst of four", x.laying(1, 15, false), 6);
        is("spread of four", x.laying(1, 15, true), 144);
        is("worst of two", x.laying(2, 12, false), 12);
        x.note(2, 3, 1);
        is("two that are known", x.laying(2, 3, false), 12);
        is("their spread", x.laying(2, 3, true), 144);
        is("a chain: 1 above 0, where is 2", x.laying(2, 6, false), 8);
        is("its spread", x.laying(2, 6, true), 80);
        throwsIt("laying(3, 7, true)", OUTSIDE, () -> x.laying(3, 7, true));
        throwsIt("laying(0, 3, true)", ILLEGAL, () -> x.laying(0, 3, true));
        throwsIt("laying(2, 17, true)", ILLEGAL, () -> x.laying(2, 17, true));
        x.note(2, 3, 0);
        is("worst without rows", x.laying(0, 7, false), 0);
        is("spread without rows", x.laying(0, 7, true), 0);
        MiddleScale y = new MiddleScale();
        y.scale(2, 0, 3);
        y.note(0, 3, 1);
        is("as if it did not lie", y.laying(0, 3, false), 3);
    }

    private void next() {
        MiddleScale x = of(4);
        is("the first of all alike", x.next(0), 7);
        is("two of four", x.next(2), 3);
        is("all four", x.next(1), 15);
        x.note(2, 3, 1);
        is("the pair that is not known", x.next(2), 12);
        x.note(0, 7, 1);
        is("0, 1 and 3, or 0, 2 and 3", x.next(0), 11);
        throwsIt("next(3)", OUTSIDE, () -> x.next(3));
        throwsIt("next(-1)", OUTSIDE, () -> x.next(-1));
        x.note(2, 3, 0);
        is("next without rows", x.next(0), 7);
        MiddleScale y = of(3);
        is("fewer things than pans", y.next(1), -1);
        y.note(0, 7, 1);
        y.note(2, 3, 1);
        is("one row: the first set", y.next(2), 3);
    }

    private void fewestAndBound() {
        MiddleScale x = of(3);
        is("three things, middle", x.fewest(0), 1);
        is("three things, heavier", x.fewest(2), 3);
        is("fewer things than pans", x.fewest(1), -1);
        is("bound of it", x.bound(1), 1);
        is("bound of middle", x.bound(0), 1);
        is("bound of heavier", x.bound(2), 2);
        x.note(0, 7, 2);
        is("known by fewer things than pans", x.fewest(1), 0);
        is("known", x.fewest(2), 0);
        is("bound of known", x.bound(2), 0);
        MiddleScale y = of(4);
        is("four things, heavier", y.fewest(2), 5);
        is("four things, middle", y.fewest(0), 3);
        is("the second of four tells no row", y.fewest(1), -1);
        is("bound by pairs", y.bound(2), 4);
        y.note(2, 3, 1);
        y.note(2, 3, 0);
        is("fewest without rows", y.fewest(1), 0);
        is("bound without rows", y.bound(1), 0);
        MiddleScale z = of(7);
        is("spent", z.fewest(0), -2);
        is("more than 8", z.fewest(2), -1);
        is("bound of 5040 by 3", z.bound(0), 8);
        is("bound of 5040 by 4", z.bound(1), 6);
        is("bound of 5040 by 2", z.bound(2), 12);
        is("4000 steps and learnt", noted(6, 0, 11, 0, 1, 45, 5, 2, 6, 1).fewest(0), 4);
        is("4001 steps, though learnt by the last", noted(6, 0, 11, 3, 1, 54, 1, 0, 13, 3).fewest(0), -2);
        is("4000 steps and not learnt", noted(6, 2, 33, 5, 0, 14, 1, 1, 54, 1, 2, 48, 5).fewest(1), -1);
        is("4001 steps", noted(6, 2, 5, 2, 1, 30, 4, 0, 41, 3, 2, 12, 2, 0, 50, 5).fewest(1), -2);
        throwsIt("fewest(3)", OUTSIDE, () -> z.fewest(3));
        throwsIt("bound(-1)", OUTSIDE, () -> z.bound(-1));
    }

    private void byNextMeanCheapest() {
        MiddleScale x = of(3);
        is("byNext(0)", x.byNext(0), 1);
        is("byNext(1)", x.byNext(1), 0);
        is("byNext(2)", x.byNext(2), 3);
        is("mean(0)", x.mean(0), 6);
        is("mean(1)", x.mean(1), 0);
        is("mean(2)", x.mean(2), 16);
        is("5 is less than 9", x.cheapest(false), 0);
        is("its coin", x.cheapest(true), 5);
        is("of several the least number", x.scale(0, 5, 0), 3);
        is("cheapest of alike", x.cheapest(false), 0);
        x.note(0, 7, 1);
        is("known: nothing is laid", x.byNext(2), 0);
        is("known: nothing is laid", x.mean(2), 0);
        is("known: the first scale", x.cheapest(false), 0);
        is("known: no coin", x.cheapest(true), 0);
        MiddleScale y = of(4);
        is("four: one laying tells a sixth", y.byNext(1), 1);
        is("mean of four", y.mean(1), 24);
        is("pairs of four things", y.byNext(2), 5);
        is("cheapest comes to known", y.cheapest(false), 0);
        is("its coin", y.cheapest(true), 15);
        MiddleScale z = new MiddleScale();
        is("cheapest of no scales", z.cheapest(false), -1);
        is("coin of no scales", z.cheapest(true), -1);
        z.scale(1, 9, 0);
        is("no scale that tells", z.cheapest(false), -1);
        z.scale(2, 0, 0);
        is("one that tells", z.cheapest(false), 1);
        is("for nothing", z.cheapest(true), 0);
        z.note(1, 3, 1);
        z.note(1, 3, 0);
        is("no rows: the first", z.cheapest(false), 0);
        throwsIt("byNext(2)", OUTSIDE, () -> z.byNext(2));
        throwsIt("byNext(-1)", OUTSIDE, () -> z.byNext(-1));
        throwsIt("mean(2)", OUTSIDE, () -> z.mean(2));
    }

    // ---- promises 34 to 50

    private void wants() {
        MiddleScale x = of(4);
        for (int want = 0; want < 4; want++) {
            is("nothing is had at first: " + want, x.wants(want, 0), false);
        }
        x.note(0, 7, 1);
        is("1 is no end", x.wants(3, 1), true);
        is("0 may be one", x.wants(3, 0), false);
        x.note(0, 14, 2);
        is("known", x.wants(0, 99), true);
        is("two may be in place 2", x.wants(1, -1), false);
        is("the ends", x.wants(2, 99), true);
        is("0 is an end", x.wants(3, 0), true);
        x.note(2, 3, 1);
        is("the middle", x.wants(1, 0), true);
        throwsIt("wants(3, 4)", OUTSIDE, () -> x.wants(3, 4));
        throwsIt("wants(4, 99)", ANOTHER, () -> x.wants(4, 99));
        throwsIt("wants(-1, 0)", ANOTHER, () -> x.wants(-1, 0));
        x.note(2, 3, 0);
        for (int want = 0; want < 4; want++) {
            is("nothing is had without rows: " + want, x.wants(want, 0), false);
        }
    }

    private void plain() {
        MiddleScale x = of(4);
        is("half", x.plain(0, 3), 12);
        x.note(2, 3, 1);
        is("what is known", x.plain(0, 1), 0);
        is("a third", x.plain(1, 2), 4);
        is("a third the other way", x.plain(2, 1), 4);
        throwsIt("plain(1, 1)", ILLEGAL, () -> x.plain(1, 1));
        throwsIt("plain(4, 4)", OUTSIDE, () -> x.plain(4, 4));
        throwsIt("plain(0, -1)", OUTSIDE, () -> x.plain(0, -1));
        x.note(2, 3, 0);
        is("nothing without rows", x.plain(0, 3), 0);
    }

    private void sorted(MiddleScale x, int layings, int... row) {
        is("layings of " + Arrays.toString(row), x.sorted(-1), layings);
        for (int p = 0; p < row.length; p++) {
            is("place " + p + " of " + Arrays.toString(row), x.sorted(p), row[p]);
        }
    }

    private void sorted() {
        MiddleScale x = of(3);
        weights(x, 5, 3, 1);
        sorted(x, 1, 0, 1, 2);
        weights(x, 3, 5, 1);
        sorted(x, 1, 1, 0, 2);
        throwsIt("sorted(3)", OUTSIDE, () -> x.sorted(3));
        throwsIt("sorted(-2)", OUTSIDE, () -> x.sorted(-2));
        MiddleScale y = of(4);
        weights(y, 10, 20, 30, 5);
        sorted(y, 2, 3, 0, 1, 2);
        weights(y, 10, 20, 30, 15);
        sorted(y, 3, 0, 3, 1, 2);
        weights(y, 10, 20, 30, 25);
        sorted(y, 3, 0, 1, 3, 2);
        weights(y, 10, 20, 30, 35);
        sorted(y, 2, 0, 1, 2, 3);
        weights(y, 30, 20, 10, 35);
        sorted(y, 2, 3, 0, 1, 2);
        MiddleScale z = of(7);
        weights(z, 10, 20, 30, 40, 50, 60, 70);
        // 5 into five: third 1, behind place 3; then one place is left, laid with places 3 and 4. So with 6.
        sorted(z, 7, 0, 1, 2, 3, 4, 5, 6);
        // 6 into six: third 1, between places 1 and 4; then between 2 and 3; then low is high.
        weights(z, 10, 20, 30, 40, 50, 60, 35);
        sorted(z, 7, 0, 1, 2, 6, 3, 4, 5);
        // Then 6 ahead of place 1, one place is left, and low is 0: it lies between places 0 and 1.
        weights(z, 10, 20, 30, 40, 50, 60, 15);
        sorted(z, 7, 0, 6, 1, 2, 3, 4, 5);
        // Behind place 4, one place is left: laid with places 4 and 5.
        weights(z, 10, 20, 30, 40, 50, 60, 65);
        sorted(z, 7, 0, 1, 2, 3, 4, 5, 6);
        weights(z, 0, 0, 0, 0, 0, 0, 0);
        sorted(z, 7, 0, 1, 2, 3, 4, 5, 6);
    }

    private void grownAndLaid() {
        MiddleScale x = of(4);
        x.note(0, 7, 1);
        x.note(2, 12, 3);
        x.note(2, 3, 0);
        x.note(1, 15, 3);
        is("laid(3)", x.laid(3, false), 2);
        is("laid(3) rose", x.laid(3, true), 2);
        is("laid(0)", x.laid(0, false), 3);
        is("laid(0) rose", x.laid(0, true), 1);
        throwsIt("laid(4)", OUTSIDE, () -> x.laid(4, false));
        throwsIt("laid(-1)", OUTSIDE, () -> x.laid(-1, true));
        throwsIt("grown(4)", OUTSIDE, () -> x.grown(4));
        throwsIt("grown(-1)", OUTSIDE, () -> x.grown(-1));
        is("grown(1)", x.grown(1), 3);
        is("one is left", x.count(2), 1);
        is("it moved down", x.look(0, 1), 12);
        is("rows by it alone", x.rows(), 12);
        is("grown again", x.grown(1), 0);
        is("grown(2)", x.grown(2), 1);
        is("rows by none", x.rows(), 24);
    }

    private void played() {
        MiddleScale x = of(3);
        weights(x, 30, 20, 10);
        is("no wrong one: layings", x.played(0, 0, 1, 0), 1);
        is("no wrong one: rows", x.played(0, 0, 1, 1), 2);
        is("no wrong one: the true row", x.played(0, 0, 1, 2), 1);
        // Seed 0: the draw is 12345, its bits 16 to 30 are 0: below 1.
        is("a wrong one: layings", x.played(0, 1, 0, 0), 1);
        is("a wrong one: rows", x.played(0, 1, 0, 1), 2);
        is("a wrong one: the true row is lost", x.played(0, 1, 0, 2), 0);
        // Seed 1: 1103527590, bits 16 to 30 are 16838: 38.
        is("38 is not below 38", x.played(0, 38, 1, 2), 1);
        is("38 is below 39", x.played(0, 39, 1, 2), 0);
        // The right one of 0, 1 is 0, of the wrong ones the one behind it is 1.
        is("a wrong one of two", x.played(2, 1, 0, 2), 0);
        is("two by two", x.played(2, 0, 7, 0), 3);
        is("fewer things than pans", x.played(1, 0, 7, 0), 0);
        is("fewer things than pans", x.played(1, 0, 7, 1), 6);
        is("nothing is changed", x.rows(), 6);
        throwsIt("played(3, 100, 0, 3)", OUTSIDE, () -> x.played(3, 100, 0, 3));
        throwsIt("played(0, 100, 0, 3)", ILLEGAL, () -> x.played(0, 100, 0, 3));
        throwsIt("played(0, -1, 0, 0)", ILLEGAL, () -> x.played(0, -1, 0, 0));
        throwsIt("played(0, 99, 0, 3)", ANOTHER, () -> x.played(0, 99, 0, 3));
        throwsIt("played(0, 0, 0, -1)", ANOTHER, () -> x.played(0, 0, 0, -1));
        MiddleScale y = of(7);
        is("the first row of many is lost", y.played(0, 1, 0, 2), 0);
        is("the first row of many is found", y.played(0, 0, 0, 2), 1);
        x.note(0, 7, 0);
        is("known: no laying", x.played(2, 0, 7, 0), 0);
        is("the true row was never left", x.played(2, 0, 7, 2), 0);
    }

    private void sures() {
        MiddleScale x = of(4);
        is("nothing is sure", x.sures(false), 0);
        x.note(0, 7, 1);
        is("what was noted", x.sures(false), 1);
        is("without notes", x.sures(true), 0);
        x.note(0, 14, 2);
        is("what follows", x.sures(false), 4);
        is("what follows without notes", x.sures(true), 2);
        x.drop(0);
        x.drop(0);
        x.note(2, 3, 1);
        x.note(2, 6, 2);
        is("by pairs", x.sures(false), 1);
        is("notes of another kind do not count", x.sures(true), 1);
        x.note(0, 7, 1);
        is("a note on it", x.sures(true), 0);
        x.drop(2);
        is("the note put away", x.sures(true), 1);
        x.note(2, 5, 0);
        is("no rows: nothing", x.sures(false), 0);
    }

    private void where() {
        MiddleScale x = of(3);
        is("where 0 by three", x.where(0, 0), 1);
        is("where 0 by fewer things than pans", x.where(0, 1), 0);
        is("where 2 by two", x.where(2, 2), 3);
        x.note(2, 3, 1);
        x.note(2, 6, 2);
        is("known", x.where(1, 2), 0);
        x.drop(1);
        x.note(2, 5, 2);
        is("0 is first of all: 012 and 021", x.where(0, 2), 0);
        is("1 is not placed", x.where(1, 2), 1);
        MiddleScale y = of(4);
        y.note(0, 7, 1);
        y.note(0, 7 << 1, 2);
        is("two as far from the ends", y.where(0, 2), 0);
        throwsIt("where(4, 0)", OUTSIDE, () -> y.where(4, 0));
        throwsIt("where(0, 3)", OUTSIDE, () -> y.where(0, 3));
        throwsIt("where(-1, 0)", OUTSIDE, () -> y.where(-1, 0));
        MiddleScale z = of(4);
        z.note(0, 7, 1);
        z.note(0, 11, 1);
        is("0 is an end in four rows", z.rows(), 4);
        is("its two places are as far from the ends", z.where(0, 0), 0);
        is("2 stands in four", z.where(2, 0), 1);
        is("two more by pairs", z.where(2, 2), 2);
        is("one for 0 is none, too, by pairs", z.where(0, 2), 0);
    }

    /** What is asked of the same rows again, behind all else, is answered alike. */
    private void askedAgain() {
        int[] notes = {0, 7, 1, 2, 9, 3};
        MiddleScale x = noted(5, notes);
        for (int turn = 0; turn < 2; turn++) {
            for (int s = 0; s < 3; s++) {
                is("byNext again", x.byNext(s), noted(5, notes).byNext(s));
                is("mean again", x.mean(s), noted(5, notes).mean(s));
                is("fewest again", x.fewest(s), noted(5, notes).fewest(s));
                for (int t = 0; t < 5; t++) {
                    is("where again", x.where(t, s), noted(5, notes).where(t, s));
                }
            }
            is("cheapest again", x.cheapest(false), noted(5, notes).cheapest(false));
            is("its coin again", x.cheapest(true), noted(5, notes).cheapest(true));
        }
        x.drop(0);
        is("byNext of other rows", x.byNext(2), noted(5, 2, 9, 3).byNext(2));
        is("where of other rows", x.where(4, 2), noted(5, 2, 9, 3).where(4, 2));
        is("fewest of other rows", x.fewest(0), noted(5, 2, 9, 3).fewest(0));
    }

    private void tree() {
        MiddleScale x = of(3);
        is("an empty way: rows", treeOf(x, "", 0, false), 6);
        is("an empty way: next", treeOf(x, "", 0, true), 7);
        is("one laying", treeOf(x, "1", 0, false), 2);
        is("known: no next", treeOf(x, "1", 0, true), -1);
        is("by pairs", treeOf(x, "1", 2, true), 5);
        is("by pairs, to the end", treeOf(x, "122", 2, false), 1);
        is("the tape is used up", x.end(1), false);
        is("fewer things than pans", treeOf(x, "", 1, true), -1);
        for (String wrong : new String[] {"3", "11", "a", "\u0000", " "}) {
            tell(x, wrong);
            throwsIt("no way " + wrong, ILLEGAL, () -> x.tree(0, false));
            is("the tape behind it", x.end(1), false);
        }
        tell(x, "0");
        throwsIt("no way where none is", ILLEGAL, () -> x.tree(1, false));
        tell(x, "0");
        throwsIt("tree(3)", OUTSIDE, () -> x.tree(3, false));
        is("the tape behind it", x.end(1), false);
        MiddleScale y = of(4);
        y.note(0, 7, 1);
        y.note(0, 11, 1);
        is("0 and 2 with 3 on two sides of 1", y.rows(), 4);
        is("next parts them by 2 and 3", y.next(0), 13);
        is("a thing of the set that cannot rise", treeOf(y, "0", 0, false), 0);
        is("no rows: no next", treeOf(y, "0", 0, true), -1);
        tell(y, "00");
        throwsIt("no way behind no rows", ILLEGAL, () -> y.tree(0, false));
    }

    private void needless() {
        MiddleScale x = of(4);
        is("needless of none", x.needless(), 0);
        x.note(2, 3, 1);
        x.note(2, 6, 2);
        is("both are needed", x.needless(), 0);
        x.note(2, 5, 2);
        is("what follows is not", x.needless(), 4);
        x.note(2, 3, 1);
        is("nor one of two alike", x.needless(), 0b1101);
        x.note(2, 3, 0);
        is("no rows: all but the last", x.needless(), 0b01111);
        MiddleScale y = new MiddleScale();
        y.scale(2, 0, 3);
        y.note(0, 3, 1);
        is("a note that may be a lie tells nothing", y.needless(), 1);
    }

    private void stands() {
        MiddleScale x = of(4);
        is("three halves above", x.stands(0, false), 3);
        is("three halves below", x.stands(0, true), 2);
        x.note(2, 3, 1);
        x.note(2, 5, 2);
        x.note(2, 9, 3);
        is("first in all above", x.stands(0, false), 0);
        is("first in all below", x.stands(0, true), 1);
        is("two above", x.stands(1, false), 2);
        is("two below", x.stands(1, true), 1);
        throwsIt("stands(4)", OUTSIDE, () -> x.stands(4, true));
        throwsIt("stands(-1)", OUTSIDE, () -> x.stands(-1, true));
        x.note(2, 6, 2);
        is("five thirds above", x.stands(1, false), 4);
        is("five thirds below", x.stands(1, true), 3);
        x.note(2, 3, 0);
        is("without rows above", x.stands(0, false), -1);
        is("without rows below", x.stands(0, true), -1);
    }

    private void imageAndBack() {
        MiddleScale x = of(4);
        is("back without an image", x.back(), false);
        x.weight(0, 7);
        x.note(0, 7, 1);
        read(x, "");
        x.image();
        x.note(2, 3, 1);
        x.weight(0, 9);
        x.scale(2, 1, 1);
        read(x, "weight 1 5");
        tell(x, "oops");
        throwsIt("a wrong text", ILLEGAL, x::shed);
        tell(x, "weight 2 6");
        x.grown(0);
        x.things(7);
        is("back", x.back(), true);
        is("things are back", x.count(0), 4);
        is("scales are back", x.count(1), 3);
        is("notes are back", x.count(2), 1);
        is("texts are back", x.count(3), 1);
        is("rows are back", x.rows(), 8);
        is("weights are back", x.weight(0, 0), 7);
        is("fault is not", x.fault(), 0);
        is("the tape is not", x.shed(), 2);
        is("what it tells", x.weight(2, 0), 6);
        is("back a second time", x.back(), true);
        is("the image stayed as it was", x.weight(0, 0), 7);
        x.drop(0);
        x.image();
        x.note(2, 3, 1);
        is("back to a newer one", x.back(), true);
        is("its rows", x.rows(), 24);
    }

    private void count() {
        MiddleScale x = of(4);
        is("mirrors of all", x.count(5), 24);
        is("count(7)", x.count(7), -1);
        is("count(-1)", x.count(-1), -1);
        x.note(2, 3, 1);
        is("no mirrors by two", x.count(5), 0);
        x.drop(0);
        x.note(0, 7, 1);
        is("all mirrors by three", x.count(5), 8);
        x.note(1, 15, 3);
        x.note(2, 3, 0);
        is("coin", x.count(4), 15);
        is("notes", x.count(2), 3);
        is("scales", x.count(1), 3);
        is("false by weights alike", x.count(6), 2);
        weights(x, 30, 20, 10, 25);
        is("false by weights", x.count(6), 0);
        weights(x, 20, 30, 10, 5);
        is("all false by weights", x.count(6), 3);
    }
}
