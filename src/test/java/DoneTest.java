import java.util.function.ToIntFunction;

/** Part 2 of the document, what is done: each sentence that names a boundary has a test of its own, on both sides of it. */
public final class DoneTest {
    private static final Check CHECK = new Check();
    private static final Twins TWINS = new Twins(CHECK);
    private static final int BAD = -1000001, STATE = -1000002, OVER = -1000004, LOST = -1000005, NONE = -1000000;
    private static final int LOW = Integer.MIN_VALUE, HIGH = Integer.MAX_VALUE;
    private static final int ADD = 0, SUB = 1, TIMES = 2, TWICE = 3, TURN = 4, HALF = 5;

    public static void main(String[] args) {
        setPutsTheWordAndTheResidue();
        setRefusesValuesOutOfReach();
        doesHasOps0To5();
        bothRegistersMayBeAlike();
        onlyTheFirstRegisterChanges();
        addIsOverBeyondTop();
        subIsOverBeyondTop();
        timesIsOverBeyondTop();
        timesIsCutTowards0();
        timesOfTheWidestWords();
        twiceIsOverBeyondTop();
        turnIsOverBeyondTop();
        sIsPassedOver();
        halfNeedsAnEvenNumber();
        halfNeedsAWordThatFits();
        halfOfWordsBeyondTop();
        residuesAreTakenBy15();
        struckWordsGoTo2Top();
        bentIsBy1To14();
        mendedRightIsNothing();
        mendedResidueBecomesRight();
        mendedByTheOnlyStrike();
        mendedIsLostWithoutCauses();
        mendedIsLostWithSeveralCauses();
        causesNeedAValueInReach();
        causesAreStrikesOfTheWidth();
        fitsOutOfReachIsLost();
        codedMakesRegistersAsAtFirst();
        codedLeavesAllElse();
        undoneKnowsTwelve();
        undoneKnowsNoneAtFirst();
        undoneIsEachKindOfCall();
        undoneIsNoRefusedCall();
        undoneIsNoMendingOfNothing();
        undoneIsNoOtherCall();
        undoneThenDoneAnew();
        CHECK.end();
    }

    private static void due(String call, int got, int want) {
        CHECK.due(call, got, want);
    }

    private static void register0(String at, CodedWords x, int word, int residue) {
        due(at + ": WORD", x.register(0, 0), word);
        due(at + ": RESIDUE", x.register(0, 1), residue);
    }

    /** DONE with register 0 and 1 of these words, residues 2 and 3. */
    private static void does(int op, int a, int width, int word, int other, int want) {
        String at = "op " + op + " of " + word + ", " + other + " by " + a + ", width " + width;
        if (want == OVER || want == STATE) {
            TWINS.changesNothing(at, () -> Made.with(a, width, word, 2, other, 3), x -> x.does(op, 0, 1), want);
            return;
        }
        CodedWords x = Made.with(a, width, word, 2, other, 3);
        due(at, x.does(op, 0, 1), want);
        int[] residues = {5, 14, 6, 4, 13, 1};
        register0(at, x, want, residues[op]);
    }

    private static void setPutsTheWordAndTheResidue() {
        int[][] dues = {{0, 0, 0}, {1, 13, 1}, {-1, -13, 14}, {15, 195, 0}, {-15, -195, 0}, {39, 507, 9}, {-39, -507, 6}};
        for (int[] due : dues) {
            CodedWords x = Made.with(13, 9, 1022, 7);
            due("sets(0, " + due[0] + ")", x.sets(0, due[0]), due[1]);
            register0("sets(0, " + due[0] + ")", x, due[1], due[2]);
        }
    }

    private static void setRefusesValuesOutOfReach() {
        int[] wrong = {27, -27, 28, 10000, LOW, LOW + 1, HIGH, 226050911, -226050911, 452101821};
        for (int value : wrong) {
            TWINS.changesNothing("sets(1, " + value + ")", Made::busy, x -> x.sets(1, value), BAD);
        }
        due("26 is in reach", Made.busy().sets(1, 26), 494);
        due("-26 is in reach", Made.busy().sets(1, -26), -494);
    }

    private static void doesHasOps0To5() {
        int[] words = {156, 104, 260, 260, -130, 65};
        for (int op = 0; op <= 5; op++) {
            due("op " + op, Made.with(13, 9, 130, 10, 26, 2).does(op, 0, 1), words[op]);
        }
        int[] none = {-1, 6, -6, 7, LOW, HIGH};
        for (int op : none) {
            TWINS.changesNothing("op " + op, Made::busy, x -> x.does(op, 1, 3), BAD);
        }
    }

    private static void bothRegistersMayBeAlike() {
        CodedWords x = Made.with(13, 9, 65, 5);
        due("ADD to itself", x.does(ADD, 0, 0), 130);
        register0("ADD to itself", x, 130, 10);
        due("SUB from itself", x.does(SUB, 0, 0), 0);
        register0("SUB from itself", x, 0, 0);
        x.sets(0, -6);
        due("TIMES itself", x.does(TIMES, 0, 0), 468);
        register0("TIMES itself", x, 468, 6);
    }

    private static void onlyTheFirstRegisterChanges() {
        for (int op = 0; op <= 5; op++) {
            CodedWords x = Made.with(13, 9, 52, 4, 39, 3, 26, 2, 13, 1);
            x.does(op, 2, 1);
            int[] words = {52, 39, x.register(2, 0), 13};
            int[] residues = {4, 3, x.register(2, 1), 1};
            CHECK.holds("op " + op + " changes register 2", words[2] != 26);
            for (int r = 0; r < 4; r++) {
                due("op " + op + ": WORD of " + r, x.register(r, 0), words[r]);
                due("op " + op + ": RESIDUE of " + r, x.register(r, 1), residues[r]);
            }
        }
    }

    private static void addIsOverBeyondTop() {
        does(ADD, 13, 9, 500, 11, 511);
        does(ADD, 13, 9, 500, 12, OVER);
        does(ADD, 13, 9, -500, -11, -511);
        does(ADD, 13, 9, -500, -12, OVER);
        does(ADD, 13, 9, 1022, -511, 511);
        does(ADD, 13, 9, 1022, -510, OVER);
        does(ADD, 13, 9, 1022, 1022, OVER);
        does(ADD, 13, 9, -1022, -1022, OVER);
        does(ADD, 3, 4, 8, 7, 15);
        does(ADD, 3, 4, 8, 8, OVER);
        does(ADD, 199, 16, 65534, 1, 65535);
        does(ADD, 199, 16, 65535, 1, OVER);
    }

    private static void subIsOverBeyondTop() {
        does(SUB, 13, 9, 500, -11, 511);
        does(SUB, 13, 9, 500, -12, OVER);
        does(SUB, 13, 9, -500, 11, -511);
        does(SUB, 13, 9, -500, 12, OVER);
        does(SUB, 13, 9, 1022, 511, 511);
        does(SUB, 13, 9, 1022, 510, OVER);
        does(SUB, 13, 9, -1022, -511, -511);
        does(SUB, 13, 9, -1022, -510, OVER);
        does(SUB, 13, 9, -1022, 1022, OVER);
        does(SUB, 199, 16, -65535, 0, -65535);
        does(SUB, 199, 16, -65535, 1, OVER);
    }

    /** By 3 and 4 bits: 45 to 47 give TOP, cut towards 0; 48 gives one more. */
    private static void timesIsOverBeyondTop() {
        does(TIMES, 3, 4, 15, 3, 15);
        does(TIMES, 3, 4, 23, 2, 15);
        does(TIMES, 3, 4, 16, 3, OVER);
        does(TIMES, 3, 4, -15, 3, -15);
        does(TIMES, 3, 4, -23, 2, -15);
        does(TIMES, 3, 4, 16, -3, OVER);
        does(TIMES, 3, 4, -23, -2, 15);
        does(TIMES, 3, 4, -24, -2, OVER);
        does(TIMES, 13, 9, 511, 13, 511);
        does(TIMES, 13, 9, 512, 13, OVER);
        does(TIMES, 13, 9, -511, 13, -511);
        does(TIMES, 13, 9, -512, 13, OVER);
    }

    private static void timesIsCutTowards0() {
        does(TIMES, 13, 9, 14, 14, 15);
        does(TIMES, 13, 9, 14, -14, -15);
        does(TIMES, 13, 9, -14, -14, 15);
        does(TIMES, 13, 9, 12, 1, 0);
        does(TIMES, 13, 9, -12, 1, 0);
        does(TIMES, 13, 9, 13, 1, 1);
        does(TIMES, 13, 9, -13, 1, -1);
        does(TIMES, 13, 9, 25, 1, 1);
        does(TIMES, 13, 9, -25, 1, -1);
        does(TIMES, 13, 9, 0, -1022, 0);
    }

    /** 131070 squared is beyond an int, and wraps to a small number there. */
    private static void timesOfTheWidestWords() {
        does(TIMES, 3, 16, 131070, 131070, OVER);
        does(TIMES, 199, 16, 131070, 131070, OVER);
        does(TIMES, 199, 16, 131070, -131070, OVER);
        does(TIMES, 199, 16, -65536, 65536, OVER);
        does(TIMES, 3, 16, 65536, 65536, OVER);
        does(TIMES, 199, 16, 131070, 99, 65205);
        does(TIMES, 199, 16, 131070, 100, OVER);
        does(TIMES, 199, 16, 131070, -99, -65205);
        does(TIMES, 199, 16, 131070, -100, OVER);
    }

    private static void twiceIsOverBeyondTop() {
        does(TWICE, 13, 9, 255, 0, 510);
        does(TWICE, 13, 9, 256, 0, OVER);
        does(TWICE, 13, 9, -255, 0, -510);
        does(TWICE, 13, 9, -256, 0, OVER);
        does(TWICE, 13, 9, 1022, 0, OVER);
        does(TWICE, 13, 9, -1022, 0, OVER);
        does(TWICE, 199, 16, 32767, 0, 65534);
        does(TWICE, 199, 16, 32768, 0, OVER);
        does(TWICE, 3, 4, 7, 0, 14);
        does(TWICE, 3, 4, 8, 0, OVER);
    }

    private static void turnIsOverBeyondTop() {
        does(TURN, 13, 9, 511, 0, -511);
        does(TURN, 13, 9, 512, 0, OVER);
        does(TURN, 13, 9, -511, 0, 511);
        does(TURN, 13, 9, -512, 0, OVER);
        does(TURN, 13, 9, 1022, 0, OVER);
        does(TURN, 13, 9, 0, 0, 0);
        does(TURN, 3, 4, -15, 0, 15);
        does(TURN, 3, 4, -16, 0, OVER);
    }

    private static void sIsPassedOver() {
        int[] any = {0, 3, -1, 4, LOW, HIGH};
        for (int s : any) {
            due("TWICE, s " + s, Made.with(13, 9, 52, 4).does(TWICE, 0, s), 104);
            due("TURN, s " + s, Made.with(13, 9, 52, 4).does(TURN, 0, s), -52);
            due("HALF, s " + s, Made.with(13, 9, 52, 4).does(HALF, 0, s), 26);
            TWINS.changesNothing("TWICE is OVER, s " + s, Made::busy, x -> x.does(TWICE, 0, s), OVER);
            TWINS.changesNothing("TURN is OVER, s " + s, Made::busy, x -> x.does(TURN, 0, s), OVER);
            TWINS.changesNothing("HALF is STATE, s " + s, Made::busy, x -> x.does(HALF, 0, s), STATE);
        }
        CodedWords x = Made.with(13, 9, 52, 4, 13, 1);
        x.does(TWICE, 0, 1);
        x.does(TURN, 0, 1);
        register0("s counts for nothing", x, -104, 7);
        due("and is left", x.register(1, 0), 13);
    }

    private static void halfNeedsAnEvenNumber() {
        does(HALF, 13, 9, 0, 0, 0);
        does(HALF, 13, 9, 13, 0, STATE);
        does(HALF, 13, 9, -13, 0, STATE);
        does(HALF, 13, 9, 26, 0, 13);
        does(HALF, 13, 9, -26, 0, -13);
        does(HALF, 13, 9, 39, 0, STATE);
        does(HALF, 13, 9, 494, 0, 247);
        does(HALF, 13, 9, 507, 0, STATE);
        does(HALF, 13, 9, -494, 0, -247);
        does(HALF, 13, 9, -507, 0, STATE);
    }

    /** The WORD by A, cut towards 0, would be even for all of these. */
    private static void halfNeedsAWordThatFits() {
        int[] words = {1, 2, 12, 27, 28, 38, -1, -2, -12, -27, -28, -38, 1022, -1022};
        for (int word : words) {
            does(HALF, 13, 9, word, 0, STATE);
        }
    }

    private static void halfOfWordsBeyondTop() {
        does(HALF, 3, 4, 24, 0, 12);
        does(HALF, 3, 4, 30, 0, 15);
        does(HALF, 3, 4, 27, 0, STATE);
        does(HALF, 3, 4, -30, 0, -15);
        does(HALF, 3, 4, -24, 0, -12);
        does(HALF, 3, 16, 131070, 0, 65535);
        does(HALF, 15, 4, 30, 0, 15);
        does(HALF, 17, 4, 17, 0, STATE);
    }

    private static void residuesAreTakenBy15() {
        int[][] dues = {{ADD, 7, 7, 14}, {ADD, 7, 8, 0}, {ADD, 14, 14, 13}, {ADD, 0, 0, 0}, {SUB, 3, 3, 0}, {SUB, 0, 1, 14},
            {SUB, 0, 14, 1}, {SUB, 14, 0, 14}, {TIMES, 2, 7, 14}, {TIMES, 3, 5, 0}, {TIMES, 4, 4, 1}, {TIMES, 14, 14, 1},
            {TIMES, 0, 14, 0}, {TWICE, 7, 0, 14}, {TWICE, 8, 0, 1}, {TWICE, 14, 0, 13}, {TWICE, 0, 9, 0}, {TURN, 0, 0, 0},
            {TURN, 1, 0, 14}, {TURN, 14, 0, 1}, {HALF, 0, 0, 0}, {HALF, 1, 0, 8}, {HALF, 2, 0, 1}, {HALF, 14, 0, 7}, {HALF, 13, 0, 14}};
        for (int[] due : dues) {
            CodedWords x = Made.with(13, 9, 0, due[1], 0, due[2]);
            x.does(due[0], 0, 1);
            register0("op " + due[0] + " of RESIDUES " + due[1] + ", " + due[2], x, 0, due[3]);
        }
    }

    private static void struckWordsGoTo2Top() {
        for (int width = 4; width <= 16; width++) {
            int end = 2 * ((1 << width) - 1);
            int wide = width;
            String at = "width " + width + ": ";
            due(at + "up to 2 TOP", Made.with(5, width, end - 1, 9).strikes(0, 0), end);
            due(at + "down to -2 TOP", Made.with(5, width, 1 - end, 9).strikes(0, 1), -end);
            TWINS.changesNothing(at + "beyond 2 TOP", () -> Made.with(5, wide, end, 9), x -> x.strikes(0, 0), STATE);
            TWINS.changesNothing(at + "below -2 TOP", () -> Made.with(5, wide, -end, 9), x -> x.strikes(0, 1), STATE);
            TWINS.changesNothing(at + "far beyond", () -> Made.with(5, wide, end, 9), x -> x.strikes(0, 2 * wide - 2), STATE);
            TWINS.changesNothing(at + "far below", () -> Made.with(5, wide, -end, 9), x -> x.strikes(0, 2 * wide - 1), STATE);
            int half = 1 << width - 1;
            due(at + "the highest bit up to 2 TOP", Made.with(5, width, end - half, 9).strikes(0, 2 * width - 2), end);
            TWINS.changesNothing(at + "one beyond by it", () -> Made.with(5, wide, end - half + 1, 9), x -> x.strikes(0, 2 * wide - 2), STATE);
            due(at + "back from 2 TOP", Made.with(5, width, end, 9).strikes(0, 1), end - 1);
        }
        CodedWords x = Made.with(13, 9, 5, 9);
        x.strikes(0, 16);
        register0("STRUCK leaves the RESIDUE", x, 261, 9);
    }

    private static void bentIsBy1To14() {
        due("by 1", Made.with(13, 9, 5, 9).bends(0, 1), 10);
        due("by 5", Made.with(13, 9, 5, 9).bends(0, 5), 14);
        due("by 6, by 15", Made.with(13, 9, 5, 9).bends(0, 6), 0);
        due("by 14", Made.with(13, 9, 5, 9).bends(0, 14), 8);
        int[] wrong = {0, 15, -1, -14, 16, 29, LOW, LOW + 1, HIGH};
        for (int d : wrong) {
            TWINS.changesNothing("bends(2, " + d + ")", Made::busy, x -> x.bends(2, d), BAD);
        }
        CodedWords x = Made.with(13, 9, 5, 9);
        x.bends(0, 14);
        register0("BENT leaves the WORD", x, 5, 8);
    }

    private static void mendedRightIsNothing() {
        int[] values = {0, 1, -1, 14, 15, 39, -39};
        for (int value : values) {
            TWINS.changesNothing("mends " + value, () -> Made.with(13, 9, 13 * value, Math.floorMod(value, 15)), x -> x.mends(0), 0);
        }
        TWINS.changesNothing("TOP itself", () -> Made.with(15, 4, 15, 1), x -> x.mends(0), 0);
        TWINS.changesNothing("-TOP itself", () -> Made.with(15, 4, -15, 14), x -> x.mends(0), 0);
    }

    private static void mends(CodedWords x, int answer, int word, int residue) {
        String at = "mends " + x.register(0, 0) + ", " + x.register(0, 1) + " by " + x.count(0);
        int known = x.count(6);
        due(at, x.mends(0), answer);
        register0(at, x, word, residue);
        due(at + ": it is RIGHT", x.register(0, 4), 1);
        due(at + ": known", x.count(6), Math.min(12, known + 1));
    }

    private static void mendedResidueBecomesRight() {
        for (int residue = 0; residue <= 14; residue++) {
            if (residue != 9) {
                mends(Made.with(13, 9, 507, residue), 1, 507, 9);
            }
            if (residue != 6) {
                mends(Made.with(13, 9, -507, residue), 1, -507, 6);
            }
            if (residue != 0) {
                mends(Made.with(199, 4, 0, residue), 1, 0, 0);
            }
        }
        mends(Made.with(15, 4, 15, 0), 1, 15, 1);
        mends(Made.with(15, 4, -15, 1), 1, -15, 14);
    }

    private static void mendedByTheOnlyStrike() {
        for (int strike = 0; strike < 18; strike++) {
            int change = strike % 2 == 0 ? 1 << strike / 2 : -(1 << strike / 2);
            mends(Made.with(19, 9, 494 + change, 11), 2 + strike, 494, 11);
            mends(Made.with(19, 9, -494 + change, 4), 2 + strike, -494, 4);
            due("KIND of the VERDICT", Made.with(19, 9, 494 + change, 11).register(0, 5), 2);
            due("STRIKE of it", Made.with(19, 9, 494 + change, 11).register(0, 6), strike);
            due("one CAUSE", Made.with(19, 9, 494 + change, 11).register(0, 7), 1);
        }
    }

    private static void lost(String what, int a, int width, int word, int residue, int causes) {
        TWINS.changesNothing(what, () -> Made.with(a, width, word, residue), x -> x.mends(0), LOST);
        CodedWords x = Made.with(a, width, word, residue);
        due(what + ": KIND", x.register(0, 5), 3);
        due(what + ": STRIKE", x.register(0, 6), NONE);
        due(what + ": CAUSES", x.register(0, 7), causes);
        due(what + ": it is not RIGHT", x.register(0, 4), 0);
    }

    /** 20 is 19 and 1 by 19: with RESIDUE 1 the STRIKE 0; with any other no STRIKE can have been. */
    private static void mendedIsLostWithoutCauses() {
        mends(Made.with(19, 9, 20, 1), 2, 19, 1);
        for (int residue = 0; residue <= 14; residue++) {
            if (residue != 1) {
                lost("20 with RESIDUE " + residue, 19, 9, 20, residue, 0);
            }
        }
    }

    /** 4 by 3: 3 and 1, 6 less 2, 0 and 4, 12 less 8; their RESIDUES are 1, 2, 0, 4. By 7, 16 bits: -30232 has two of one RESIDUE. */
    private static void mendedIsLostWithSeveralCauses() {
        mends(Made.with(3, 4, 4, 1), 2, 3, 1);
        mends(Made.with(3, 4, 4, 2), 2 + 3, 6, 2);
        mends(Made.with(3, 4, 4, 0), 2 + 4, 0, 0);
        mends(Made.with(3, 4, 4, 4), 2 + 7, 12, 4);
        lost("4 with RESIDUE 3", 3, 4, 4, 3, 0);
        lost("-30232 with RESIDUE 0", 7, 16, -30232, 0, 2);
    }

    /** By 19, 9 bits: 26 is the last in reach. */
    private static void causesNeedAValueInReach() {
        mends(Made.with(19, 9, 495, 11), 2, 494, 11);
        lost("514: 513 and 1, but 27 is out of reach", 19, 9, 514, 12, 0);
        mends(Made.with(19, 9, -495, 4), 3, -494, 4);
        lost("-514: -513 less 1, but -27 is out of reach", 19, 9, -514, 3, 0);
        mends(Made.with(15, 4, 16, 1), 2, 15, 1);
        lost("29: 30 less 1, but 2 is out of reach", 15, 4, 29, 2, 0);
        mends(Made.with(17, 4, 8, 0), 2 + 6, 0, 0);
        lost("16: 17 less 1, but 1 is out of reach", 17, 4, 16, 1, 0);
    }

    private static void causesAreStrikesOfTheWidth() {
        mends(Made.with(19, 9, 256, 0), 2 + 16, 0, 0);
        lost("512 is no STRIKE of 9 bits", 19, 9, 512, 0, 0);
        mends(Made.with(19, 9, -256, 0), 2 + 17, 0, 0);
        lost("-512 is none", 19, 9, -512, 0, 0);
        mends(Made.with(199, 4, 8, 0), 2 + 6, 0, 0);
        lost("16 is no STRIKE of 4 bits", 199, 4, 16, 0, 0);
        mends(Made.with(199, 16, 32768, 0), 2 + 30, 0, 0);
        lost("65536 is no STRIKE of 16 bits", 199, 16, 65536, 0, 0);
    }

    private static void fitsOutOfReachIsLost() {
        lost("18 by 3, 4 bits, RESIDUE of 6", 3, 4, 18, 6, 0);
        lost("18 by 3, 4 bits, another RESIDUE", 3, 4, 18, 0, 0);
        lost("-18 by 3, 4 bits", 3, 4, -18, 9, 0);
        lost("520 by 13, 9 bits", 13, 9, 520, 10, 0);
        lost("-520 by 13, 9 bits", 13, 9, -520, 5, 0);
        lost("17 by 17, 4 bits", 17, 4, 17, 1, 0);
    }

    private static void codedMakesRegistersAsAtFirst() {
        int[][] codes = {{19, 9}, {3, 4}, {199, 16}, {19, 4}, {3, 9}};
        for (int[] code : codes) {
            CodedWords x = Made.busy();
            x.codes(code[0], code[1]);
            due("A", x.count(0), code[0]);
            due("WIDTH", x.count(1), code[1]);
            for (int r = 0; r < 4; r++) {
                due("WORD of " + r + " behind codes", x.register(r, 0), 0);
                due("RESIDUE of " + r + " behind codes", x.register(r, 1), 0);
            }
            due("all are RIGHT", x.count(4), 4);
        }
    }

    private static void codedLeavesAllElse() {
        CodedWords x = Made.busy();
        int open = x.unseen(0);
        x.codes(3, 4);
        due("SEEN behind codes", x.count(5), 6);
        due("UNSEEN behind codes", x.unseen(0), open);
        due("image 0 behind codes", x.back(0), 7);
        due("image 1 behind codes", x.back(1), 19);
    }

    private static void undoneKnowsTwelve() {
        for (int done = 0; done <= 30; done++) {
            CodedWords x = new CodedWords();
            for (int value = 1; value <= done; value++) {
                x.sets(0, value);
            }
            int known = Math.min(done, 12);
            due("may be UNDONE of " + done, x.count(6), known);
            for (int left = known - 1; left >= 0; left--) {
                due("undo of " + done, x.undo(), left);
            }
            due("none is left of " + done, x.undo(), STATE);
            due("older ones are lost", x.register(0, 0), 13 * (done - known));
            due("0 may be UNDONE", x.count(6), 0);
        }
    }

    private static void undoneKnowsNoneAtFirst() {
        TWINS.changesNothing("undo of a new object", CodedWords::new, CodedWords::undo, STATE);
        due("one", onceDone().undo(), 0);
        TWINS.changesNothing("undo twice", () -> {
            CodedWords x = onceDone();
            x.undo();
            return x;
        }, CodedWords::undo, STATE);
    }

    private static CodedWords onceDone() {
        CodedWords x = new CodedWords();
        x.sets(2, 3);
        return x;
    }

    private static void undoneIs(String what, CodedWords x, ToIntFunction<CodedWords> call) {
        x.keep(0);
        x.back(0);
        String before = Twins.asked(x);
        call.applyAsInt(x);
        due(what + " may be UNDONE", x.count(6), 1);
        CHECK.holds(what + " changes something", !before.equals(Twins.asked(x)));
        due("undo of " + what, x.undo(), 0);
        CHECK.holds(what + " is UNDONE", before.equals(Twins.asked(x)));
    }

    private static void undoneIsEachKindOfCall() {
        undoneIs("sets", Made.busy(), x -> x.sets(0, 26));
        undoneIs("sets of the word that is there", Made.busy(), x -> x.sets(1, 26));
        for (int op = 0; op <= 5; op++) {
            int which = op;
            undoneIs("op " + op, Made.with(13, 9, 52, 4, 39, 3), x -> x.does(which, 0, 1));
        }
        undoneIs("strikes", Made.busy(), x -> x.strikes(0, 1));
        undoneIs("bends", Made.busy(), x -> x.bends(0, 14));
        undoneIs("mends a RESIDUE", Made.busy(), x -> x.mends(1));
        undoneIs("mends a STRIKE", Made.busy(), x -> x.mends(3));
        undoneIs("codes", Made.busy(), x -> x.codes(3, 4));
        undoneIs("codes alike", Made.busy(), x -> x.codes(19, 9));
    }

    private static void undoneIsNoRefusedCall() {
        TWINS.changesNothing("BAD sets", Made::wide, x -> x.sets(0, 330), BAD);
        TWINS.changesNothing("OVER does", Made::wide, x -> x.does(ADD, 0, 0), OVER);
        TWINS.changesNothing("STATE does", Made::wide, x -> x.does(HALF, 0, 0), STATE);
        TWINS.changesNothing("BAD does", Made::wide, x -> x.does(6, 0, 0), BAD);
        TWINS.changesNothing("BAD strikes", Made::wide, x -> x.strikes(0, 32), BAD);
        TWINS.changesNothing("STATE strikes", () -> Made.with(199, 16, 131070, 0), x -> x.strikes(0, 0), STATE);
        TWINS.changesNothing("BAD bends", Made::wide, x -> x.bends(0, 15), BAD);
        TWINS.changesNothing("BAD mends", Made::wide, x -> x.mends(4), BAD);
        TWINS.changesNothing("BAD codes", Made::wide, x -> x.codes(199, 17), BAD);
    }

    private static void undoneIsNoMendingOfNothing() {
        TWINS.changesNothing("mends of what is RIGHT", Made::wide, x -> x.mends(0), 0);
        TWINS.changesNothing("mends of what is LOST", Made::narrow, x -> x.mends(3), LOST);
        CodedWords x = onceDone();
        x.bends(2, 1);
        x.mends(2);
        due("mends of a RESIDUE is known", x.count(6), 3);
        x.mends(2);
        due("once more it is not", x.count(6), 3);
    }

    private static void undoneIsNoOtherCall() {
        CodedWords x = onceDone();
        x.keep(0);
        x.sees(3, 1);
        x.forget();
        x.unseen(0);
        x.next();
        x.back(1);
        due("only sets is known", x.count(6), 1);
        due("and UNDONE", x.undo(), 0);
        due("WORD", x.register(2, 0), 0);
        due("undo is not UNDONE", x.undo(), STATE);
    }

    private static void undoneThenDoneAnew() {
        CodedWords x = new CodedWords();
        for (int value = 1; value <= 12; value++) {
            x.sets(0, value);
        }
        x.undo();
        x.sets(0, 30);
        due("12 are known again", x.count(6), 12);
        x.sets(0, 31);
        due("and no more", x.count(6), 12);
        int[] words = {30, 11, 10, 9, 8, 7, 6, 5, 4, 3, 2, 1};
        for (int i = 0; i < 12; i++) {
            due("undo", x.undo(), 11 - i);
            due("WORD", x.register(0, 0), 13 * words[i]);
        }
        due("the first is lost", x.undo(), STATE);
    }
}
