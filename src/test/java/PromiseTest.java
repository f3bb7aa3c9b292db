/** One test for each promise, by number: ordinary calls, the edges that the document names, wrong inputs. Answers due are worked out by hand. */
public final class PromiseTest {
    private static final Check CHECK = new Check();
    private static final int BAD = -1000001, STATE = -1000002, FULL = -1000003, OVER = -1000004, LOST = -1000005, NONE = -1000000;
    private static final int LOW = Integer.MIN_VALUE, HIGH = Integer.MAX_VALUE;

    public static void main(String[] args) {
        promise1NewObject();
        promise2Codes();
        promise2CodesStartsAnew();
        promise3Sets();
        promise4DoesSums();
        promise4DoesTimes();
        promise4DoesTurnAndHalf();
        promise4DoesResidues();
        promise4DoesRefuses();
        promise5Strikes();
        promise6Bends();
        promise7Mends();
        promise7MendsLost();
        promise8Undo();
        promise8UndoKnowsTwelve();
        promise8UndoWhatCounts();
        promise9Register();
        promise9RegisterVerdicts();
        promise10Weight();
        promise11Distance();
        promise12Least();
        promise13Round();
        promise14Plain();
        promise15Same();
        promise16Missed();
        promise17Odds();
        promise18Sees();
        promise19Forget();
        promise20Unseen();
        promise21Next();
        promise22Keep();
        promise23Back();
        promise24Count();
        nothingChangesWhenAsked();
        CHECK.end();
    }

    private static void due(String call, int got, int want) {
        CHECK.due(call, got, want);
    }

    private static void registers(String at, CodedWords x, int... wordsAndResidues) {
        for (int r = 0; r < 4; r++) {
            due(at + ": word of " + r, x.register(r, 0), wordsAndResidues[2 * r]);
            due(at + ": residue of " + r, x.register(r, 1), wordsAndResidues[2 * r + 1]);
        }
    }

    private static void promise1NewObject() {
        CodedWords x = new CodedWords();
        due("1: A", x.count(0), 13);
        due("1: WIDTH", x.count(1), 9);
        due("1: all are RIGHT", x.count(4), 4);
        due("1: SEEN", x.count(5), 0);
        due("1: may be undone", x.count(6), 0);
        registers("1", x, 0, 0, 0, 0, 0, 0, 0, 0);
        due("1: no image 0", x.back(0), STATE);
        due("1: no image 1", x.back(1), STATE);
        CodedWords other = new CodedWords();
        other.codes(3, 4);
        other.sets(0, 1);
        other.keep(0);
        other.sees(5, 1);
        due("1: objects are apart", x.count(0) + x.register(0, 0) + x.count(5) + x.count(6), 13);
        due("1: images are apart", x.back(0), STATE);
    }

    private static void promise2Codes() {
        CodedWords x = new CodedWords();
        due("codes(3, 4)", x.codes(3, 4), 5);
        due("codes(199, 16)", x.codes(199, 16), 329);
        due("codes(3, 16)", x.codes(3, 16), 21845);
        due("codes(199, 4)", x.codes(199, 4), 0);
        due("codes(15, 4)", x.codes(15, 4), 1);
        due("codes(17, 4)", x.codes(17, 4), 0);
        int[] wrong = {2, 4, 1, 198, 200, 201, 0, -1, -13, LOW, HIGH};
        for (int a : wrong) {
            due("codes(" + a + ", 9)", x.codes(a, 9), BAD);
        }
        int[] wrongWidths = {3, 17, 0, -9, LOW, HIGH};
        for (int width : wrongWidths) {
            due("codes(13, " + width + ")", x.codes(13, width), BAD);
        }
        due("A stays behind BAD", x.count(0), 17);
        due("WIDTH stays behind BAD", x.count(1), 4);
        due("six were done", x.count(6), 6);
    }

    private static void promise2CodesStartsAnew() {
        CodedWords x = new CodedWords();
        for (int r = 0; r < 4; r++) {
            x.sets(r, r + 5);
        }
        due("codes(13, 9) again", x.codes(13, 9), 39);
        registers("codes", x, 0, 0, 0, 0, 0, 0, 0, 0);
        due("it can be undone", x.undo(), 4);
        registers("codes undone", x, 65, 5, 78, 6, 91, 7, 104, 8);
    }

    private static void promise3Sets() {
        CodedWords x = new CodedWords();
        due("sets(0, 39)", x.sets(0, 39), 507);
        due("sets(1, -39)", x.sets(1, -39), -507);
        due("sets(2, -1)", x.sets(2, -1), -13);
        due("sets(3, 15)", x.sets(3, 15), 195);
        registers("sets", x, 507, 9, -507, 6, -13, 14, 195, 0);
        int[] wrong = {40, -40, LOW, HIGH, 330382100};
        for (int value : wrong) {
            due("sets(0, " + value + ")", x.sets(0, value), BAD);
        }
        int[] none = {4, -1, LOW, HIGH};
        for (int r : none) {
            due("sets(" + r + ", 0)", x.sets(r, 0), BAD);
        }
        registers("sets refused", x, 507, 9, -507, 6, -13, 14, 195, 0);
        x.codes(199, 4);
        due("only 0 in reach", x.sets(0, 0), 0);
        due("1 is out of reach", x.sets(0, 1), BAD);
    }

    private static void promise4DoesSums() {
        CodedWords x = new CodedWords();
        x.sets(0, 20);
        x.sets(1, -19);
        x.sets(2, 19);
        due("ADD", x.does(0, 0, 1), 13);
        due("SUB", x.does(1, 1, 2), -494);
        due("ADD with itself", x.does(0, 2, 2), 494);
        due("SUB from itself", x.does(1, 2, 2), 0);
        due("TWICE", x.does(3, 0, 2), 26);
        registers("sums", x, 26, 2, -494, 7, 0, 0, 0, 0);
        x.sets(3, 20);
        due("TWICE beyond TOP", x.does(3, 3, 0), OVER);
        due("ADD beyond TOP", x.does(0, 3, 3), OVER);
        due("ADD below -TOP", x.does(0, 1, 1), OVER);
        due("SUB below -TOP", x.does(1, 1, 3), OVER);
        registers("OVER", x, 26, 2, -494, 7, 0, 0, 260, 5);
        x.strikes(2, 16);
        x.strikes(2, 15);
        x.strikes(2, 17);
        x.strikes(2, 16);
        x.sets(1, 29);
        x.strikes(1, 4);
        due("words that do not fit: 128 and 381", x.does(0, 2, 1), 509);
        x.strikes(3, 9);
        due("TWICE of 244, which does not fit", x.does(3, 3, 0), 488);
        due("TWICE once more", x.does(3, 3, 0), OVER);
    }

    private static void promise4DoesTimes() {
        CodedWords x = new CodedWords();
        x.sets(0, 5);
        x.sets(1, -7);
        due("TIMES", x.does(2, 0, 1), -455);
        registers("TIMES", x, -455, 10, -91, 8, 0, 0, 0, 0);
        x.sets(2, 6);
        due("TIMES with itself", x.does(2, 2, 2), 468);
        due("TIMES beyond", x.does(2, 2, 2), OVER);
        x.sets(2, 1);
        x.strikes(2, 0);
        x.sets(3, -1);
        x.strikes(3, 1);
        due("14 by -14: -196 by 13, cut towards 0", x.does(2, 2, 3), -15);
        x.codes(3, 16);
        for (int r = 0; r < 2; r++) {
            x.sets(r, 21845);
            x.strikes(r, 30);
            x.strikes(r, 28);
        }
        due("a product beyond 2 to the power of 31", x.does(2, 0, 1), OVER);
        due("it is left", x.register(0, 0), 65535 + 32768 + 16384);
    }

    private static void promise4DoesTurnAndHalf() {
        CodedWords x = new CodedWords();
        x.sets(0, 17);
        due("TURN", x.does(4, 0, 0), -221);
        due("TURN again", x.does(4, 0, 3), 221);
        due("HALF of odd", x.does(5, 0, 0), STATE);
        x.sets(1, -14);
        due("HALF", x.does(5, 1, 0), -91);
        registers("HALF", x, 221, 2, -91, 8, 0, 0, 0, 0);
        due("HALF of odd below 0", x.does(5, 1, 0), STATE);
        due("HALF of 0", x.does(5, 2, 0), 0);
        x.sets(2, 2);
        x.strikes(2, 2);
        due("HALF of what does not fit: 28", x.does(5, 2, 0), STATE);
        x.sets(3, 39);
        x.strikes(3, 16);
        due("TURN beyond TOP", x.does(4, 3, 0), OVER);
        x.sets(3, 39);
        x.strikes(3, 4);
        due("-TOP itself", x.does(4, 3, 0), -511);
        due("TOP itself", x.does(4, 3, 0), 511);
        x.codes(3, 4);
        x.sets(0, 4);
        x.strikes(0, 6);
        x.strikes(0, 4);
        due("24 is beyond TOP, fits, is 3 times 8", x.register(0, 3), 8);
        due("HALF comes back below TOP", x.does(5, 0, 0), 12);
    }

    private static void promise4DoesResidues() {
        CodedWords x = new CodedWords();
        x.bends(0, 9);
        x.bends(1, 14);
        x.does(0, 0, 1);
        due("9 and 14", x.register(0, 1), 8);
        x.does(1, 0, 1);
        due("8 less 14", x.register(0, 1), 9);
        x.does(2, 0, 1);
        due("9 times 14", x.register(0, 1), 6);
        x.does(3, 1, 0);
        due("twice 14", x.register(1, 1), 13);
        x.does(4, 1, 0);
        due("0 less 13", x.register(1, 1), 2);
        x.does(4, 3, 0);
        due("0 less 0", x.register(3, 1), 0);
        x.does(5, 0, 0);
        due("8 times 6", x.register(0, 1), 3);
        x.does(5, 0, 0);
        due("8 times 3", x.register(0, 1), 9);
    }

    private static void promise4DoesRefuses() {
        CodedWords x = new CodedWords();
        x.sets(0, 3);
        int[] noOp = {-1, 6, LOW, HIGH};
        for (int op : noOp) {
            due("does(" + op + ", 0, 0)", x.does(op, 0, 0), BAD);
        }
        int[] noRegister = {-1, 4, LOW, HIGH};
        for (int r : noRegister) {
            for (int op = 0; op <= 5; op++) {
                due("does(" + op + ", " + r + ", 0)", x.does(op, r, 0), BAD);
            }
            for (int op = 0; op <= 2; op++) {
                due("does(" + op + ", 0, " + r + ")", x.does(op, 0, r), BAD);
            }
            due("HALF passes s over: STATE, not BAD", x.does(5, 0, r), STATE);
        }
        due("TWICE passes s over", x.does(3, 0, 4), 78);
        due("TURN passes s over", x.does(4, 0, -1), -78);
        due("HALF passes s over", x.does(5, 0, HIGH), -39);
        due("what was refused is not known", x.count(6), 4);
    }

    private static void promise5Strikes() {
        CodedWords x = new CodedWords();
        for (int strike = 0; strike < 18; strike += 2) {
            due("strikes(0, " + strike + ")", x.strikes(0, strike), 1 << strike / 2);
            due("strikes(0, " + (strike + 1) + ")", x.strikes(0, strike + 1), 0);
        }
        int[] wrong = {-1, 18, 19, LOW, HIGH};
        for (int strike : wrong) {
            due("strikes(0, " + strike + ")", x.strikes(0, strike), BAD);
        }
        int[] none = {-1, 4, LOW, HIGH};
        for (int r : none) {
            due("strikes(" + r + ", 0)", x.strikes(r, 0), BAD);
        }
        x.bends(1, 5);
        for (int i = 1; i <= 3; i++) {
            due("256 more", x.strikes(1, 16), 256 * i);
        }
        due("beyond 1022", x.strikes(1, 16), STATE);
        for (int k = 7; k >= 1; k--) {
            x.strikes(1, 2 * k);
        }
        due("2 TOP itself is reached", x.register(1, 0), 1022);
        due("one beyond", x.strikes(1, 0), STATE);
        due("the word is left", x.register(1, 0), 1022);
        due("the residue is left", x.register(1, 1), 5);
        for (int k = 8; k >= 1; k--) {
            x.strikes(2, 2 * k + 1);
        }
        x.strikes(2, 17);
        x.strikes(2, 17);
        due("-2 TOP itself is reached", x.register(2, 0), -1022);
        due("one below", x.strikes(2, 1), STATE);
        due("BAD goes ahead of STATE", x.strikes(2, 18), BAD);
        x.codes(13, 16);
        due("width 16 has strike 31", x.strikes(0, 31), -32768);
        due("but not 32", x.strikes(0, 32), BAD);
    }

    private static void promise6Bends() {
        CodedWords x = new CodedWords();
        x.sets(0, 10);
        due("bends(0, 4)", x.bends(0, 4), 14);
        due("bends(0, 1)", x.bends(0, 1), 0);
        due("bends(0, 14)", x.bends(0, 14), 14);
        due("bends(0, 14)", x.bends(0, 14), 13);
        registers("bends", x, 130, 13, 0, 0, 0, 0, 0, 0);
        int[] wrong = {0, 15, -1, LOW, HIGH};
        for (int d : wrong) {
            due("bends(0, " + d + ")", x.bends(0, d), BAD);
        }
        int[] none = {-1, 4, LOW, HIGH};
        for (int r : none) {
            due("bends(" + r + ", 1)", x.bends(r, 1), BAD);
        }
        due("five were done", x.count(6), 5);
    }

    private static void promise7Mends() {
        CodedWords x = new CodedWords();
        x.codes(19, 9);
        x.sets(0, -26);
        due("it is right", x.mends(0), 0);
        for (int strike = 0; strike < 18; strike++) {
            x.strikes(0, strike);
            due("mends strike " + strike, x.mends(0), 2 + strike);
            due("it is as before", x.register(0, 0), -494);
            due("residue is as before", x.register(0, 1), 4);
        }
        for (int d = 1; d <= 14; d++) {
            x.bends(0, d);
            due("mends a residue", x.mends(0), 1);
            due("it is right again", x.register(0, 1), 4);
        }
        x.sets(1, 9);
        x.strikes(1, 10);
        x.strikes(1, 9);
        x.strikes(1, 7);
        due("171, 32 more, 16 less, 8 less: 179 leaves 8", x.register(1, 2), 8);
        x.sets(1, 9);
        x.strikes(1, 2);
        x.strikes(1, 0);
        x.strikes(1, 8);
        due("171, 2 more, 1 more, 16 more: it fits again, as 10", x.register(1, 0), 190);
        due("so its residue is taken as bent", x.mends(1), 1);
        due("the residue follows the word", x.register(1, 1), 10);
        int[] none = {-1, 4, LOW, HIGH};
        for (int r : none) {
            due("mends(" + r + ")", x.mends(r), BAD);
        }
    }

    private static void promise7MendsLost() {
        CodedWords x = new CodedWords();
        x.codes(3, 4);
        x.bends(0, 1);
        x.strikes(0, 2);
        x.strikes(0, 0);
        x.strikes(0, 0);
        due("4, residue 1: of 3, 0, 6, 12 that one strike makes 4, just 3 has it", x.register(0, 7), 1);
        due("mends(0)", x.mends(0), 2);
        due("the word is 3", x.register(0, 0), 3);
        x.sets(1, 5);
        x.strikes(1, 6);
        due("23 can come from 15 alone", x.mends(1), 8);
        x.strikes(1, 6);
        x.strikes(1, 0);
        due("24 fits, out of reach", x.register(1, 3), 8);
        due("24 has no cause", x.register(1, 7), 0);
        due("it is lost", x.mends(1), LOST);
        x.codes(19, 9);
        x.strikes(0, 16);
        x.strikes(0, 16);
        due("512 is 0 but for a bit that is none of the width's", x.register(0, 7), 0);
        due("lost", x.mends(0), LOST);
        x.codes(7, 16);
        x.strikes(2, 0);
        x.bends(2, 1);
        due("1, residue 1: what one strike makes 1 has residues 0, 14, 6, 2 alone", x.register(2, 7), 0);
        due("lost without causes", x.mends(2), LOST);
        x.sets(3, 4681);
        x.strikes(3, 1);
        due("32766, residue 1: 1 less, or 4096 less", x.register(3, 7), 2);
        due("lost among several", x.mends(3), LOST);
        due("nothing changed", x.register(3, 0), 32766);
        int known = x.count(6);
        x.mends(3);
        due("LOST is not known to undo", x.count(6), known);
    }

    private static void promise8Undo() {
        CodedWords x = new CodedWords();
        due("nothing yet", x.undo(), STATE);
        x.sets(0, 6);
        x.does(3, 0, 0);
        x.strikes(0, 3);
        x.mends(0);
        x.bends(0, 3);
        x.mends(0);
        x.codes(5, 5);
        x.sets(0, 1);
        due("undo sets", x.undo(), 7);
        registers("undo sets", x, 0, 0, 0, 0, 0, 0, 0, 0);
        due("undo codes", x.undo(), 6);
        due("A is back", x.count(0), 13);
        due("WIDTH is back", x.count(1), 9);
        registers("undo codes", x, 156, 12, 0, 0, 0, 0, 0, 0);
        due("undo mends of a residue", x.undo(), 5);
        registers("undo mends", x, 156, 0, 0, 0, 0, 0, 0, 0);
        due("undo bends", x.undo(), 4);
        registers("undo bends", x, 156, 12, 0, 0, 0, 0, 0, 0);
        due("undo mends of a word", x.undo(), 3);
        registers("undo mends", x, 154, 12, 0, 0, 0, 0, 0, 0);
        due("undo strikes", x.undo(), 2);
        registers("undo strikes", x, 156, 12, 0, 0, 0, 0, 0, 0);
        due("undo does", x.undo(), 1);
        registers("undo does", x, 78, 6, 0, 0, 0, 0, 0, 0);
        due("undo sets", x.undo(), 0);
        registers("undo sets", x, 0, 0, 0, 0, 0, 0, 0, 0);
        due("no more", x.undo(), STATE);
    }

    private static void promise8UndoKnowsTwelve() {
        CodedWords x = new CodedWords();
        for (int value = 1; value <= 30; value++) {
            x.sets(0, value);
            due("known", x.count(6), Math.min(value, 12));
        }
        for (int left = 11; left >= 0; left--) {
            due("undo", x.undo(), left);
            due("word", x.register(0, 0), 13 * (18 + left));
        }
        due("older ones are lost", x.undo(), STATE);
        due("the word of the 18th is left", x.register(0, 0), 234);
        for (int value = 1; value <= 5; value++) {
            x.sets(1, value);
        }
        x.undo();
        x.undo();
        x.sets(1, 9);
        due("one more in place of two", x.undo(), 3);
        due("behind it the third", x.register(1, 0), 39);
    }

    private static void promise8UndoWhatCounts() {
        CodedWords x = new CodedWords();
        x.sets(0, 0);
        due("sets that puts what was there", x.count(6), 1);
        x.does(4, 0, 0);
        due("does that leaves all as it was", x.count(6), 2);
        x.codes(13, 9);
        due("codes alike", x.count(6), 3);
        x.mends(0);
        due("mends of what is right is none", x.count(6), 3);
        x.sets(0, 99);
        x.does(5, 0, 9);
        x.strikes(0, 99);
        x.bends(0, 99);
        x.codes(2, 2);
        x.mends(9);
        due("only HALF of 0 was not refused", x.count(6), 4);
        x.sees(9, 1);
        x.keep(0);
        x.next();
        x.missed();
        due("these are not undone", x.count(6), 4);
        x.undo();
        due("SEEN stays", x.count(5), 1);
        due("the image stays", x.back(0), 13);
    }

    private static void promise9Register() {
        CodedWords x = new CodedWords();
        x.sets(2, -9);
        int[] right = {-117, 6, 0, -9, 1, 0, NONE, 0};
        for (int what = 0; what < 8; what++) {
            due("right: register(2, " + what + ")", x.register(2, what), right[what]);
        }
        x.bends(2, 1);
        int[] bent = {-117, 7, 0, -9, 0, 1, NONE, 0};
        for (int what = 0; what < 8; what++) {
            due("bent: register(2, " + what + ")", x.register(2, what), bent[what]);
        }
        int[] none = {-1, 4, LOW, HIGH};
        for (int r : none) {
            due("register(" + r + ", 0)", x.register(r, 0), BAD);
        }
        int[] wrong = {-1, 8, LOW, HIGH};
        for (int what : wrong) {
            due("register(0, " + what + ")", x.register(0, what), BAD);
        }
    }

    private static void promise9RegisterVerdicts() {
        CodedWords x = new CodedWords();
        x.codes(19, 9);
        x.sets(0, -2);
        x.strikes(0, 7);
        int[] struck = {-46, 13, 11, NONE, 0, 2, 7, 1};
        for (int what = 0; what < 8; what++) {
            due("struck: register(0, " + what + ")", x.register(0, what), struck[what]);
        }
        x.codes(15, 4);
        x.sets(1, 1);
        x.strikes(1, 6);
        x.strikes(1, 4);
        x.strikes(1, 2);
        x.strikes(1, 0);
        int[] beyond = {30, 1, 0, 2, 0, 3, NONE, 0};
        for (int what = 0; what < 8; what++) {
            due("fits beyond reach: register(1, " + what + ")", x.register(1, what), beyond[what]);
        }
        x.codes(7, 16);
        x.sets(3, -9000);
        x.strikes(3, 30);
        int[] two = {-30232, 0, 1, NONE, 0, 3, NONE, 2};
        for (int what = 0; what < 8; what++) {
            due("two causes: register(3, " + what + ")", x.register(3, what), two[what]);
        }
    }

    private static void promise10Weight() {
        CodedWords x = new CodedWords();
        int[][] dues = {{0, 0}, {1, 1}, {-1, 1}, {3, 2}, {6, 2}, {7, 2}, {11, 3}, {13, 3}, {15, 2}, {21, 3}, {43, 4}, {65535, 2},
            {65536, 1}, {43691, 9}, {87381, 9}, {99999, 7}, {-99999, 7}, {100000, BAD}, {-100000, BAD}, {LOW, BAD}, {HIGH, BAD}};
        for (int[] due : dues) {
            due("weight(" + due[0] + ")", x.weight(due[0]), due[1]);
        }
    }

    private static void promise11Distance() {
        CodedWords x = new CodedWords();
        due("distance(3, 4)", x.distance(3, 4), 2);
        due("distance(11, 4): 11 alone", x.distance(11, 4), 3);
        due("distance(11, 5): 22 too", x.distance(11, 5), 3);
        due("distance(11, 6): 33 is 32 and 1", x.distance(11, 6), 2);
        due("distance(15, 4): 15 is below 16", x.distance(15, 4), 2);
        due("distance(17, 4): 17 is not", x.distance(17, 4), NONE);
        due("distance(171, 8): 171 alone", x.distance(171, 8), 5);
        due("distance(199, 7)", x.distance(199, 7), NONE);
        int[] wrong = {2, 1, 4, 200, 201, -3, LOW, HIGH};
        for (int a : wrong) {
            due("distance(" + a + ", 9)", x.distance(a, 9), BAD);
        }
        int[] wrongWidths = {3, 17, LOW, HIGH};
        for (int width : wrongWidths) {
            due("distance(13, " + width + ")", x.distance(13, width), BAD);
        }
    }

    private static void promise12Least() {
        CodedWords x = new CodedWords();
        due("least(1, 4)", x.least(1, 4), 3);
        due("least(2, 16)", x.least(2, 16), 3);
        due("least(3, 4): 11, for 17 and on have no DISTANCE", x.least(3, 4), 11);
        due("least(4, 4)", x.least(4, 4), NONE);
        due("least(3, 5)", x.least(3, 5), 11);
        due("least(5, 8)", x.least(5, 8), 171);
        due("least(5, 16)", x.least(5, 16), NONE);
        int[] wrong = {0, 6, -1, LOW, HIGH};
        for (int d : wrong) {
            due("least(" + d + ", 9)", x.least(d, 9), BAD);
        }
        int[] wrongWidths = {3, 17, LOW, HIGH};
        for (int width : wrongWidths) {
            due("least(3, " + width + ")", x.least(3, width), BAD);
        }
    }

    private static void promise13Round() {
        CodedWords x = new CodedWords();
        int[][] dues = {{3, 1}, {5, 2}, {7, 3}, {9, 3}, {11, 5}, {15, 4}, {17, 4}, {31, 5}, {33, 5}, {127, 7}, {129, 7}, {199, 99},
            {1, BAD}, {2, BAD}, {4, BAD}, {200, BAD}, {201, BAD}, {-3, BAD}, {0, BAD}, {LOW, BAD}, {HIGH, BAD}};
        for (int[] due : dues) {
            due("round(" + due[0] + ")", x.round(due[0]), due[1]);
        }
    }

    private static void promise14Plain() {
        CodedWords x = new CodedWords();
        due("plain(9, 4): 8 leaves what 1 less leaves", x.plain(9, 4), 0);
        due("plain(11, 5)", x.plain(11, 5), 1);
        due("plain(11, 6)", x.plain(11, 6), 0);
        due("plain(17, 4)", x.plain(17, 4), 1);
        due("plain(17, 5)", x.plain(17, 5), 0);
        due("plain(199, 16)", x.plain(199, 16), 1);
        int[] wrong = {2, 1, 4, 200, 201, -3, LOW, HIGH};
        for (int a : wrong) {
            due("plain(" + a + ", 9)", x.plain(a, 9), BAD);
        }
        int[] wrongWidths = {3, 17, LOW, HIGH};
        for (int width : wrongWidths) {
            due("plain(13, " + width + ")", x.plain(13, width), BAD);
        }
    }

    private static void promise15Same() {
        CodedWords x = new CodedWords();
        due("13, 9: 1 is left by 1 and by 64 less", x.same(1, 0), 2);
        due("the first is 0", x.same(1, 1), 0);
        due("12 is left by 1 less and by 64", x.same(12, 1), 1);
        due("3 is left by 16 alone", x.same(3, 0), 1);
        due("its number is 8", x.same(3, 1), 8);
        due("0 is never left", x.same(0, 0), 0);
        due("there is no first", x.same(0, 1), NONE);
        int[] wrong = {-1, 13, LOW, HIGH};
        for (int rest : wrong) {
            due("same(" + rest + ", 0)", x.same(rest, 0), BAD);
        }
        int[] wrongWhats = {-1, 2, LOW, HIGH};
        for (int what : wrongWhats) {
            due("same(1, " + what + ")", x.same(1, what), BAD);
        }
        x.codes(199, 4);
        due("a rest of the new A", x.same(198, 1), 1);
        due("none has 100", x.same(100, 1), NONE);
        due("8 is of the width", x.same(8, 1), 6);
        due("16 is not", x.same(16, 1), NONE);
        due("nor does it count", x.same(16, 0), 0);
    }

    private static void promise16Missed() {
        CodedWords x = new CodedWords();
        due("13, 9: 64, 128, 256 leave 1, 2, 4 less than 13: two twos each", x.missed(), 6);
        x.codes(13, 6);
        due("13, 6 is plain", x.missed(), 0);
        x.codes(13, 7);
        due("13, 7: 1 and 64, both ways", x.missed(), 2);
        x.codes(3, 4);
        due("3, 4", x.missed(), 12);
        x.codes(3, 16);
        due("3, 16: 16 by 16, less those of one bit", x.missed(), 240);
    }

    private static void promise17Odds() {
        CodedWords x = new CodedWords();
        x.codes(3, 4);
        int[][] three = {{0, 1}, {1, 2}, {1, 4}, {3, 8}};
        for (int t = 1; t <= 4; t++) {
            due("3, 4: odds(" + t + ", 0)", x.odds(t, 0), three[t - 1][0]);
            due("3, 4: odds(" + t + ", 1)", x.odds(t, 1), three[t - 1][1]);
        }
        x.codes(199, 4);
        due("199, 4: two must take one another back", x.odds(2, 0), 1);
        due("of 8 by 8 just 8", x.odds(2, 1), 8);
        due("three: 1 1 -2, 2 2 -4, 4 4 -8, three ways each, both signs: 18 of 512", x.odds(3, 0), 9);
        due("in least terms", x.odds(3, 1), 256);
        x.codes(13, 9);
        due("13, 9: 18 that take back, 12 that are missed, of 324", x.odds(2, 0), 5);
        due("in least terms", x.odds(2, 1), 54);
        int[] wrong = {0, 5, -1, LOW, HIGH};
        for (int t : wrong) {
            due("odds(" + t + ", 0)", x.odds(t, 0), BAD);
        }
        int[] wrongWhats = {-1, 2, LOW, HIGH};
        for (int what : wrongWhats) {
            due("odds(1, " + what + ")", x.odds(1, what), BAD);
        }
    }

    private static void promise18Sees() {
        CodedWords x = new CodedWords();
        int[] wrong = {0, 10000, -1, LOW, HIGH};
        for (int word : wrong) {
            due("sees(" + word + ", 1)", x.sees(word, 1), BAD);
        }
        int[] wrongFits = {-1, 2, LOW, HIGH};
        for (int fits : wrongFits) {
            due("sees(1, " + fits + ")", x.sees(1, fits), BAD);
        }
        due("nothing is SEEN", x.count(5), 0);
        int[] words = {1, 9999, 77, 77, 5, 2};
        for (int i = 0; i < 6; i++) {
            due("sees(" + words[i] + ", 0)", x.sees(words[i], 0), i + 1);
        }
        due("a seventh", x.sees(1, 0), FULL);
        due("BAD goes ahead of FULL", x.sees(0, 0), BAD);
        due("six stay", x.count(5), 6);
    }

    private static void promise19Forget() {
        CodedWords x = new CodedWords();
        due("nothing was SEEN", x.forget(), 0);
        x.sees(3, 1);
        x.sees(5, 1);
        due("two were", x.forget(), 2);
        due("none is", x.count(5), 0);
        due("all are open again", x.unseen(0), 99);
        due("one more", x.sees(7, 1), 1);
        due("3 and 5 do not count any more", x.unseen(1), 7);
        due("one was", x.forget(), 1);
    }

    private static void promise20Unseen() {
        CodedWords x = new CodedWords();
        due("all", x.unseen(0), 99);
        due("the least", x.unseen(1), 3);
        x.sees(9 * 11, 1);
        due("3, 9, 11, 33, 99", x.unseen(0), 5);
        x.sees(3, 0);
        due("9, 11, 33, 99", x.unseen(0), 4);
        due("9", x.unseen(1), 9);
        x.sees(199, 0);
        due("as before", x.unseen(0), 4);
        x.sees(11, 1);
        due("11 alone", x.unseen(0), 1);
        due("it is 11", x.unseen(1), 11);
        x.sees(22, 0);
        due("none", x.unseen(0), 0);
        due("no least", x.unseen(1), NONE);
        int[] wrong = {-1, 2, LOW, HIGH};
        for (int what : wrong) {
            due("unseen(" + what + ")", x.unseen(what), BAD);
        }
        x.forget();
        x.sees(199, 1);
        due("the highest", x.unseen(1), 199);
    }

    private static void promise21Next() {
        CodedWords x = new CodedWords();
        due("45 has 3, 5, 9, 15, 45, as many as any", x.next(), 45);
        x.sees(9 * 11, 1);
        due("3, 9, 11, 33, 99: 9 parts two from three", x.next(), 9);
        x.sees(9, 1);
        due("3, 9: 3 parts them", x.next(), 3);
        x.sees(3, 1);
        due("one is left", x.next(), NONE);
        x.sees(1, 1);
        due("none is left", x.next(), NONE);
        x.forget();
        x.sees(101, 0);
        x.sees(4949, 1);
        due("49 times 101, not by 101: 7 or 49", x.unseen(0), 2);
        due("7 parts them", x.next(), 7);
        x.forget();
        x.sees(9797, 1);
        due("97 or 101", x.unseen(0), 2);
        due("97 parts them", x.next(), 97);
        x.forget();
        x.sees(1287, 1);
        x.sees(429, 0);
        x.sees(9, 0);
        due("99 or 117", x.unseen(0), 2);
        due("99 is a word to try", x.next(), 99);
        x.forget();
        x.sees(945, 1);
        x.sees(315, 0);
        x.sees(27, 0);
        due("135 or 189", x.unseen(0), 2);
        due("no word to try parts them: the least", x.next(), 1);
    }

    private static void promise22Keep() {
        CodedWords x = new CodedWords();
        due("keep(0)", x.keep(0), 13);
        x.codes(5, 6);
        x.sets(0, 3);
        due("keep(1)", x.keep(1), 5);
        int[] wrong = {-1, 2, LOW, HIGH};
        for (int image : wrong) {
            due("keep(" + image + ")", x.keep(image), BAD);
        }
        x.sets(0, 4);
        due("the image is not the register", x.back(1), 5);
        due("it was 3", x.register(0, 0), 15);
        due("the other image", x.back(0), 13);
        x.sets(2, 7);
        x.keep(0);
        x.sets(2, 8);
        due("kept anew", x.back(0), 13);
        due("it was 7", x.register(2, 0), 91);
    }

    private static void promise23Back() {
        CodedWords x = new CodedWords();
        due("none was kept", x.back(0), STATE);
        int[] wrong = {-1, 2, LOW, HIGH};
        for (int image : wrong) {
            due("back(" + image + ")", x.back(image), BAD);
        }
        x.codes(21, 8);
        x.sets(0, 11);
        x.sets(1, -12);
        x.strikes(2, 6);
        x.bends(3, 7);
        x.sees(21, 1);
        x.keep(1);
        due("0 was not", x.back(0), STATE);
        due("behind STATE all may be undone", x.count(6), 5);
        x.codes(13, 9);
        x.sees(3, 0);
        due("back(1)", x.back(1), 21);
        due("WIDTH", x.count(1), 8);
        registers("back", x, 231, 11, -252, 3, 8, 0, 0, 7);
        due("nothing can be undone", x.undo(), STATE);
        due("SEEN is not of the image", x.count(5), 2);
        x.sets(0, 0);
        due("from here on", x.undo(), 0);
        due("and back again", x.back(1), 21);
        registers("back again", x, 231, 11, -252, 3, 8, 0, 0, 7);
    }

    private static void promise24Count() {
        CodedWords x = new CodedWords();
        x.codes(199, 16);
        x.sees(4, 0);
        x.bends(0, 1);
        x.strikes(1, 0);
        int[] dues = {199, 16, 65535, 329, 2, 1, 3};
        for (int what = 0; what < 7; what++) {
            due("count(" + what + ")", x.count(what), dues[what]);
        }
        int[] wrong = {-1, 7, LOW, HIGH};
        for (int what : wrong) {
            due("count(" + what + ")", x.count(what), BAD);
        }
    }

    private static void nothingChangesWhenAsked() {
        CodedWords x = new CodedWords();
        x.sets(0, 5);
        x.strikes(1, 3);
        x.bends(2, 2);
        x.sees(45, 1);
        x.weight(77);
        x.distance(3, 16);
        x.least(4, 16);
        x.round(199);
        x.plain(7, 7);
        x.same(2, 1);
        x.missed();
        x.odds(4, 0);
        x.unseen(0);
        x.next();
        x.keep(0);
        registers("asked", x, 65, 5, -2, 0, 0, 2, 0, 0);
        due("asked: A", x.count(0), 13);
        due("asked: WIDTH", x.count(1), 9);
        due("asked: SEEN", x.count(5), 1);
        due("asked: may be undone", x.count(6), 3);
    }
}
