import java.util.regex.Matcher;
import java.util.regex.Pattern;

/** Boundaries of texts and of their faults: promises 4 and 5. */
final class TextBoundaries extends Boundaries {
    TextBoundaries(Due due, Book book) {
        super(due, book);
    }

    @Override
    void look() {
        boundsOfThings();
        boundsOfPrices();
        boundsOfLies();
        boundsOfWeights();
        thereByThen();
        asManyAsPans();
        oneOfThemRose();
        digits();
        thingsWithoutNotes();
        weightsThatAreNoMore();
        words();
        blanks();
        noLine();
        twelveLines();
        noMoreDigits();
        noSuchNumber();
        liesOnItAlready();
        didNotLieOnIt();
        wordsThatAreNone();
        lineOfNoRoom();
        scaleOfNoRoom();
        noteOfNoRoom();
        moreMustCome();
        firstOfSeveral();
        nothingStays();
        usesTheTapeUp();
        howMany();
        eightTexts();
        aheadOfAny();
        latestText();
    }

    /** Wrong for four things with scales 0 three, 1 four and 2 two. */
    private void wrong(String text, int at) {
        wrongText(of(4), text, at);
    }

    private MiddleScale right(String text) {
        return rightText(of(4), text);
    }

    // ---- promise 4: what each line holds

    private void boundsOfThings() {
        says(4, "N: 3 to 7");
        is("things 3", right("things 3").count(0), 3);
        is("things 7", right("things 7").count(0), 7);
        for (String n : new String[] {"0", "1", "2", "8", "9", "10", "13", "37", "73", "256", "999"}) {
            wrong("things " + n, 7);
        }
    }

    private void boundsOfPrices() {
        says(4, "P: 0 to 99");
        MiddleScale x = right("scale two 0 0; note 3 0 1 rose 1");
        is("coin of a note for nothing", x.count(4), 0);
        is("coin of a note for 99", right("scale two 99 0; note 3 0 1 rose 1").count(4), 99);
        wrong("scale two 100 0", 10);
        wrong("scale three 100 0", 12);
        wrong("scale four 999 0", 11);
        wrong("scale two -1 0", 10);
    }

    private void boundsOfLies() {
        says(4, "L: 0 to 3");
        is("no lie is borne", right("scale two 0 0; note 3 0 1 rose 1").rows(), 12);
        String notes = "; note 3 0 1 rose 1".repeat(3);
        is("three lies are borne", right("scale two 0 3" + notes).rows(), 24);
        is("a fourth is not", right("scale two 0 3" + notes + "; note 3 0 1 rose 1").rows(), 12);
        is("of two lies a third is not", right("scale two 0 2" + notes).rows(), 12);
        wrong("scale two 5 4", 12);
        wrong("scale three 5 99", 14);
        wrong("scale four 5 -0", 13);
    }

    private void boundsOfWeights() {
        says(4, "W: 0 to 999");
        is("weight 0", weights(of(4), 5).weight(0, 0), 5);
        is("to 0", rightText(weights(of(4), 5), "weight 0 0").weight(0, 1), 0);
        is("to 999", right("weight 3 999").weight(3, 0), 999);
        wrong("weight 0 1000", 9);
        wrong("weight 0 -1", 9);
    }

    private void thereByThen() {
        says(4, "S: a SCALE, T: a THING that is there by then");
        wrongText(new MiddleScale(), "note 0 0 1 rose 1", 5);
        wrongText(new MiddleScale(), "note 0 0 1 rose 1; scale two 1 0", 5);
        is("a scale of the same text", rightText(new MiddleScale(), "scale two 1 0;note 0 0 1 rose 1").rows(), 3);
        wrongText(new MiddleScale(), "scale two 1 0;note 1 0 1 rose 1", 19);
        is("the last scale", right("note 2 0 1 rose 1").look(0, 0), 2);
        is("a scale of kind 0", rightText(new MiddleScale(), "scale three 1 0;note 0 0 1 2 rose 1").rows(), 2);
        is("a scale of kind 1", rightText(new MiddleScale(), "things 4;scale four 1 0;note 0 0 1 2 3 rose 1").rows(), 6);
        wrong("note 3 0 1 rose 1", 5);
        is("the last thing", right("weight 3 8").weight(3, 0), 8);
        wrong("weight 4 8", 7);
        is("a thing of the same text", right("things 5;weight 4 8").weight(4, 0), 8);
        wrong("weight 4 8;things 5", 7);
        wrong("things 3;weight 3 8", 16);
        is("a thing of the same text on a scale", right("things 7;note 2 0 6 rose 6").look(0, 1), 65);
        wrong("note 2 0 4 rose 0", 9);
        wrong("things 3;note 2 0 3 rose 0", 18);
    }

    private void asManyAsPans() {
        says(4, "as many T as the SCALE has pans");
        is("three", right("note 0 3 1 0 rose 1").look(0, 1), 11);
        is("four", right("note 1 3 1 0 2 rose 1").look(0, 1), 15);
        is("two", right("note 2 3 1 rose 1").look(0, 1), 10);
        wrong("note 0 0 1 rose 1", 11);
        wrong("note 0 0 1 2 3 rose 1", 13);
        wrong("note 1 0 1 2 rose 1", 13);
        wrongText(of(5), "note 1 0 1 2 3 4 rose 1", 15);
        wrong("note 2 0 rose 0", 9);
        wrong("note 2 0 1 2 rose 1", 11);
        wrong("note 2 rose 1", 7);
        wrongText(of(3), "note 1 0 1 2 rose 1", 13);
    }

    private void oneOfThemRose() {
        says(4, "the one that ROSE is one of them");
        for (int t = 0; t < 3; t++) {
            is("each of them may", right("note 0 0 1 2 rose " + t).look(0, 2), t);
            is("each of the others, too", right("note 0 3 2 1 rose " + (t + 1)).look(0, 2), t + 1);
        }
        wrong("note 0 0 1 2 rose 3", 18);
        wrong("note 0 1 2 3 rose 0", 18);
        wrong("note 2 1 3 rose 2", 16);
        wrong("note 2 1 3 rose 4", 16);
        wrong("note 1 0 1 2 3 rose 4", 20);
    }

    private void digits() {
        says(4, "All numbers are of 1 to 3 digits.");
        is("one", right("things 5").count(0), 5);
        is("two", right("things 05").count(0), 5);
        is("three", right("things 005").count(0), 5);
        wrong("things 0005", 7);
        wrong("things 00000000000000000005", 7);
        wrong("things 4294967300", 7);
        is("in every line", right("weight 000 010;scale two 007 000;note 003 001 000 rose 001").look(0, 1), 3);
        wrong("weight 0000 1", 7);
        wrong("weight 0 0000", 9);
        wrong("scale two 0001 0", 10);
        wrong("scale two 1 0000", 12);
        wrong("note 0000 0 1 2 rose 1", 5);
        wrong("note 0 0 0001 2 rose 1", 9);
        wrong("note 0 0 1 2 rose 0001", 18);
        wrong("things ;", 7);
        wrong("weight 0;", 8);
        wrong("things +5", 7);
        wrong("things /", 7);
        wrong("things :", 7);
        is("0 is a digit", right("weight 0 0").count(3), 1);
        is("9 is a digit", right("weight 0 9").weight(0, 0), 9);
    }

    private void thingsWithoutNotes() {
        says(4, "things: only as long as there are no NOTES (else the word is wrong)");
        wrongText(noted(4, 0, 7, 1), "things 4", 0);
        wrongText(noted(4, 0, 7, 1), "  things 99", 2);
        wrongText(noted(4, 0, 7, 1), "things", 0);
        wrongText(noted(4, 0, 7, 1), "weight 0 1; things 5", 12);
        wrong("note 2 0 1 rose 1;things 4", 18);
        is("ahead of the note", right("things 5;note 2 0 4 rose 4").rows(), 60);
        MiddleScale x = noted(4, 0, 7, 1);
        x.drop(0);
        is("when it is put away", rightText(x, "things 5").count(0), 5);
        is("with scales", right("things 3").count(1), 3);
    }

    private void weightsThatAreNoMore() {
        says(4, "WEIGHTS of THINGS that there are no more are 0 then");
        MiddleScale x = rightText(weighing(1, 2, 3, 4, 5, 6, 7), "things 4;things 7");
        for (int t = 0; t < 7; t++) {
            is("weight of " + t, x.weight(t, 0), t < 4 ? t + 1 : 0);
        }
        MiddleScale y = rightText(of(7), "weight 6 9; weight 3 8; things 6; things 7; weight 5 4; things 7");
        is("of the last one", y.weight(6, 0), 0);
        is("of one that stays", y.weight(3, 0), 8);
        is("none is lost by as many things", y.weight(5, 0), 4);
    }

    // ---- promise 4: signs

    private void words() {
        says(4, "Words are as long as a to z go on");
        is("a digit ends it", right("things5").count(0), 5);
        is("in a line", right("scale two1 0;note3 0 1rose1").rows(), 12);
        wrong("thingsa 5", 0);
        wrong("thingsz 5", 0);
        wrong("things`5", 6);
        wrong("things{5", 6);
        wrong("thingsA5", 6);
        wrong("things_5", 6);
        wrong("scaletwo 1 0", 0);
        wrong("scale twox 1 0", 6);
        wrong("note 2 0 1 rosea 1", 11);
        wrong("Things 5", 0);
        wrong("tHings 5", 0);
        wrong("thingS 5", 0);
        wrong("thin gs 5", 0);
    }

    private void blanks() {
        says(4, "between all there may be blanks (32), also ahead and behind");
        is("none where none need be", right("weight0 7;things5;scale two1 1;note3 0 4rose4").rows(), 120);
        is("many everywhere", right("   scale   two   1   1   ;   note   3   0   1   rose   1   ;  weight  0  7  ")
            .weight(0, 0), 7);
        is("behind a sign", right("weight 0 7; weight 1 8").weight(1, 0), 8);
        is("ahead of a sign", right("weight 0 7 ;weight 1 8").weight(1, 0), 8);
        wrong("weight 0 7 7", 11);
        wrong("weight 01", 9);
        for (char other : new char[] {0, 9, 10, 13, 31, 33, 127, 160, 255}) {
            wrong(other + "weight 0 7", 0);
            wrong("weight" + other + "0 7", 6);
            wrong("weight 0" + other + "7", 8);
            wrong("weight 0 7" + other, 10);
            wrong("weight 0 7;" + other + "weight 0 7", 11);
        }
    }

    private void noLine() {
        says(4, "A text that is empty, or blanks alone, has no LINE.");
        for (int blanks : new int[] {0, 1, 2, 19, 20, 21, 399, 400}) {
            MiddleScale x = weighing(1, 2, 3, 4);
            String before = state(x);
            is(blanks + " blanks", read(x, " ".repeat(blanks)), 1);
            is("fault() of them", x.fault(), -1);
            is("one text more", x.count(3), 1);
            is("all else is as it was", state(x).substring(8), before.substring(8));
        }
        wrong(";", 0);
        wrong("  ;", 2);
        wrong(" ; ;", 1);
        wrong("weight 0 1;;weight 0 2", 11);
        wrong("weight 0 1; ;weight 0 2", 12);
    }

    private void twelveLines() {
        says(4, "LINE { ; LINE }, at most 12");
        StringBuilder b = new StringBuilder("weight 0 1");
        for (int lines = 1; lines <= 12; lines++) {
            is(lines + " lines", right(b.toString()).weight(0, 0), lines);
            b.append(";weight 0 ").append(lines + 1);
        }
        wrong(b.toString(), 135);
        is("a line alone", right("weight 0 1").count(3), 1);
        wrong("weight 0 1 weight 0 1", 11);
        wrong("weight 0 1, weight 0 1", 10);
        wrong("weight 0 1: weight 0 1", 10);
        is("twelve in each of two texts", read(right("weight 0 1" + ";weight 0 1".repeat(11)),
            "weight 0 2" + ";weight 0 2".repeat(11)), 2);
        is("a text as long as the tape", right(" ".repeat(390) + "weight 0 7").weight(0, 0), 7);
        wrongText(of(3), " ".repeat(392) + "weight 0", 400);
        wrongText(of(3), " ".repeat(399) + "x", 399);
    }

    // ---- promise 4: the first wrong byte

    private void noMoreDigits() {
        says(4, "the begin of the first thing that cannot stand there (a number of more digits, or out of its bounds,");
        wrong("weight   1   1234", 13);
        wrong("weight   1234   1", 9);
        wrong("things   8", 9);
        wrong("scale two   123   9", 12);
        wrong("scale two   12   34", 17);
        wrong("things 12345678901234567890", 7);
        wrong("weight 1 999 9", 13);
        wrong("weight 1 9999x", 9);
    }

    private void noSuchNumber() {
        says(4, "or that tells no SCALE, no THING");
        wrong("note   3 0 1 rose 1", 7);
        wrong("note 999 0 1 rose 1", 5);
        wrong("weight   4 1", 9);
        wrong("weight 999 1", 7);
        wrong("note 0   4 1 2 rose 1", 9);
        wrong("note 0 1 4 2 rose 1", 9);
        wrong("note 0 1 2 4 rose 1", 11);
        wrong("note 1 1 2 3 4 rose 1", 13);
        wrong("note 0 1 2 32 rose 1", 11);
        wrong("note 0 1 2 3 rose   4", 20);
        wrong("note 0 1 2 3 rose 33", 18);
        wrong("note 0 1 2 3 rose 34", 18);
    }

    private void liesOnItAlready() {
        says(4, "one that lies on it already");
        wrong("note 0 1 1 2 rose 1", 9);
        wrong("note 0 1 2 1 rose 1", 11);
        wrong("note 0 1 2   2 rose 1", 13);
        wrong("note 1 0 1 2 0 rose 1", 13);
        wrong("note 2 3 3 rose 3", 9);
        wrong("note 2 3 003 rose 3", 9);
        is("it may lie on it in another note", right("note 2 0 1 rose 1;note 2 1 0 rose 0").quarrels(), 1);
    }

    private void didNotLieOnIt() {
        says(4, "or did not lie on it");
        wrong("note 2 0 1 rose   2", 18);
        wrong("note 2 2 3 rose 0", 16);
        wrong("note 0 0 1 2 rose 3", 18);
        wrong("note 2 0 1 rose 0;note 2 2 3 rose 1", 34);
    }

    private void wordsThatAreNone() {
        says(4, "a word that is none");
        for (String word : new String[] {"thing", "thingss", "t", "xhings", "thingx", "scales", "weigth", "notes", "not",
            "rose", "three", "four", "two", "a", "zzz"}) {
            wrong(word + " 4", 0);
            wrong("  " + word, 2);
            wrong("weight 0 1; " + word + " 4", 12);
        }
        for (String kind : new String[] {"thre", "threes", "xhree", "tow", "fours", "five", "one", "things", "scale"}) {
            wrong("scale " + kind + " 1 0", 6);
            wrong("scale   " + kind, 8);
        }
        for (String rose : new String[] {"ros", "roses", "risen", "note", "xose", "rosx"}) {
            wrong("note 2 0 1 " + rose + " 1", 11);
            wrong("note 2 0 1   " + rose, 13);
        }
        wrong("scale 3 1 0", 6);
        wrong("things three", 7);
        wrong("weight 0 1 rose 0", 11);
        wrong("5", 0);
    }

    private void lineOfNoRoom() {
        says(4, "of a 13th LINE, or of a SCALE or NOTE for which there is no room, the first word");
        String twelve = "weight 0 1" + ";weight 0 2".repeat(11);
        wrong(twelve + ";weight 0 3", 132);
        wrong(twelve + ";   weight 0 3", 135);
        wrong(twelve + ";pip", 132);
        wrong(twelve + ";things 99", 132);
        wrong(twelve + ";weight 0 3;weight 0 4", 132);
        wrong(twelve + ";", 132);
        wrong(twelve + ";  ", 134);
        wrong(twelve + " pip", 132);
    }

    private void scaleOfNoRoom() {
        says(4, "SCALES (at most 4, numbered from 0 on)");
        is("a fourth one", right("scale two 1 0").count(1), 4);
        wrong("scale two 1 0;scale two 1 0", 14);
        wrong("scale two 1 0;  scale", 16);
        wrong("scale two 1 0;scale five", 14);
        wrong("scale two 1 0;scale two 100 9", 14);
        is("four in a text", rightText(new MiddleScale(), "scale two 1 0" + ";scale two 1 0".repeat(3)).count(1), 4);
        wrongText(new MiddleScale(), "scale two 1 0" + ";scale two 1 0".repeat(4), 56);
        wrongText(read4(), "scale two 1 0", 0);
    }

    private static MiddleScale read4() {
        MiddleScale x = of(4);
        x.scale(0, 0, 0);
        return x;
    }

    private void noteOfNoRoom() {
        says(4, "NOTES (at most 16, numbered from 0 on)");
        MiddleScale x = fullOfNotes(4);
        x.drop(0);
        is("a sixteenth one", rightText(x, "note 2 0 1 rose 0").look(15, 2), 0);
        wrongText(x, "note 2 0 1 rose 0", 0);
        wrongText(fullOfNotes(4), "note", 0);
        wrongText(fullOfNotes(4), " note 9 9 9", 1);
        MiddleScale y = of(4);
        rightText(y, "note 2 0 1 rose 0" + ";note 2 0 1 rose 0".repeat(11));
        wrongText(y, "note 2 0 1 rose 0" + ";note 2 0 1 rose 0".repeat(4), 72);
        is("twelve and four", rightText(y, "note 2 0 1 rose 0" + ";note 2 0 1 rose 0".repeat(3)).count(2), 16);
    }

    private void moreMustCome() {
        says(4, "or the text's length, if more must come");
        wrong("things", 6);
        wrong("things ", 7);
        wrong("  things   ", 11);
        wrong("scale", 5);
        wrong("scale three", 11);
        wrong("scale three 99", 14);
        wrong("scale three 99 ", 15);
        wrong("weight", 6);
        wrong("weight 3", 8);
        wrong("weight 3  ", 10);
        wrong("note", 4);
        wrong("note 2", 6);
        wrong("note 2 0", 8);
        wrong("note 2 0 1", 10);
        wrong("note 2 0 1 ", 11);
        wrong("note 2 0 1 rose", 15);
        wrong("note 2 0 1 rose  ", 17);
        wrong("note 0 0 1", 10);
        wrong("note 1 0 1 2", 12);
        wrong("weight 0 1;", 11);
        wrong("weight 0 1;   ", 14);
        MiddleScale x = of(4);
        tell(x, "weight 0 123456789");
        x.end(8);
        wrongTape(x, "shed of 'weight 0', the rest of which was cut off", 8);
        tell(x, "things");
        x.end(5);
        wrongTape(x, "shed of 'thing', the rest of which was cut off", 0);
    }

    private void firstOfSeveral() {
        says(4, "the begin of the first thing that cannot stand there");
        wrong("weight 9 9999;pip", 7);
        wrong("things 4;pip;things 99", 9);
        wrong("note 9 9 9 rose 9", 5);
        wrong("note 2 0 0 rose 9", 9);
        wrong("scale pip 100 9", 6);
        wrong("scale two 100 9", 10);
        wrong("pip;;", 0);
        for (String line : new String[] {"things 9", "things 0005", "scale two 100 0", "scale two 1 9", "weight 9 1",
            "weight 0 1000", "note 9 0 1 rose 0", "note 2 9 1 rose 1", "note 2 1 1 rose 1", "note 2 0 1 rose 2",
            "note 2 0 1 rose 9"}) {
            int at = "note 2 1 1 rose 1".equals(line) ? 9 : firstWrong(line);
            wrong(line + ";pip", at);
            wrong(line + ";" + line, at);
            wrong(line + " pip", at);
        }
        wrong("scale pip;pip", 6);
        wrong("note 2 0 1 pip;pip", 11);
    }

    /** Where the only number stands that is 2 behind rose, 9, 100 or of four digits. */
    private static int firstWrong(String line) {
        Matcher m = Pattern.compile("(?<=rose )2|\\b9\\b|\\b100\\b|\\d{4}").matcher(line);
        return m.find() ? m.start() : -1;
    }

    private void nothingStays() {
        says(4, "Of a wrong text nothing stays.");
        wrong("things 7;pip", 9);
        wrong("scale two 1 0;pip", 14);
        wrong("weight 0 5;weight 3 6;pip", 22);
        wrong("note 2 0 1 rose 1;pip", 18);
        wrong("weight 0 5;things 3;scale two 1 3;note 3 0 1 rose 1;weight 0 6;", 63);
        MiddleScale x = weighing(1, 2, 3, 4, 5, 6, 7);
        wrongText(x, "things 3;things 7;pip", 18);
        is("a weight that would be 0", x.weight(6, 0), 7);
        MiddleScale y = of(4);
        wrongText(y, "weight 0 5;scale two 1 0;pip", 25);
        is("the next text is read as if it had not been", rightText(y, "scale two 1 0").count(1), 4);
        is("the weight is 0", y.weight(0, 0), 0);
    }

    // ---- promises 4 and 5

    private void usesTheTapeUp() {
        says(4, "Uses the TAPE up: a text of THE SHED");
        MiddleScale x = of(3);
        tell(x, "weight 0 7");
        is("a right text", x.shed(), 1);
        is("the tape behind it", x.end(1), false);
        is("an empty text then", x.shed(), 2);
        wrongText(x, "weight 0 7,", 10);
        is("an empty text behind a wrong one", x.shed(), 3);
        is("what comes then is for itself", rightText(x, "weight 1 8").weight(1, 0), 8);
    }

    private void howMany() {
        says(4, "how many there are");
        MiddleScale x = of(3);
        for (int texts = 1; texts <= 8; texts++) {
            is("text " + texts, read(x, "weight 0 " + texts), texts);
            is("texts behind it", x.count(3), texts);
            if (texts == 4) {
                wrongText(x, "pip", 0);
            }
        }
    }

    private static MiddleScale eight() {
        MiddleScale x = of(3);
        for (int i = 0; i < 8; i++) {
            x.shed();
        }
        return x;
    }

    private void eightTexts() {
        says(4, "UnsupportedOperationException: there are 8.");
        is("eight", eight().count(3), 8);
        refusesTape("a ninth text", FULL, TextBoundaries::eight, "weight 0 5", MiddleScale::shed);
        refusesTape("a ninth text of all", FULL, TextBoundaries::eight,
            "things 7;scale two 1 1;weight 6 5;note 3 0 6 rose 6", MiddleScale::shed);
        refusesTape("an empty ninth text", FULL, TextBoundaries::eight, "", MiddleScale::shed);
        says(4, "Of several exceptions the one told first is thrown");
        wrongText(eight(), "weight 0 1000", 9);
        wrongText(eight(), "weight 0 1;", 11);
        wrongText(eight(), "pip", 0);
    }

    private void aheadOfAny() {
        says(5, "NONE without one, and ahead of any");
        is("ahead of any", new MiddleScale().fault(), -1);
        MiddleScale x = of(3);
        tell(x, "pip");
        is("a text that is not read yet", x.fault(), -1);
        wrongTape(x, "shed of it", 0);
        is("asked again", x.fault(), 0);
        read(x, "weight 0 1");
        is("behind a right text", x.fault(), -1);
        wrongText(x, "weight 0", 8);
        read(x, "");
        is("behind an empty text", x.fault(), -1);
    }

    private void latestText() {
        says(5, "The first wrong byte of the latest text that was read");
        MiddleScale x = of(3);
        wrongText(x, "weight 9 1", 7);
        wrongText(x, "weight 0 1;pip", 11);
        is("of the latest", x.fault(), 11);
        tell(x, "weight 9 1");
        is("what is on the tape was not read", x.fault(), 11);
        x.things(4);
        x.scale(0, 0, 0);
        x.end(0);
        is("other calls change nothing", x.fault(), 11);
        tell(x, "0123");
        x.fits();
        tell(x, "0123");
        x.nearly();
        x.tree(0, false);
        is("rows and ways are no texts", x.fault(), 11);
        wrongText(x, " ".repeat(399) + ",", 399);
        is("the last byte that there can be", x.fault(), 399);
    }
}
