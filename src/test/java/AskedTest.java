import java.util.function.Supplier;
import java.util.function.ToIntFunction;

/** Part 3 of the document, what is asked, and the images: each sentence that names a boundary has a test of its own, on both sides of it. */
public final class AskedTest {
    private static final Check CHECK = new Check();
    private static final Twins TWINS = new Twins(CHECK);
    private static final int BAD = -1000001, STATE = -1000002, FULL = -1000003, LOST = -1000005, NONE = -1000000;
    private static final int LOW = Integer.MIN_VALUE, HIGH = Integer.MAX_VALUE;

    public static void main(String[] args) {
        nothingIsChanged();
        weightGoesTo99999();
        weightOfSignedDigits();
        distanceOfConstantsAndWidths();
        distanceIsBelowThePowerOf2();
        distanceIsNoneWithoutAMultiple();
        leastIsForDistances1To5();
        leastIsNoneIfNoneIsEnough();
        leastIsThatOrMore();
        roundIs1OrMore();
        roundLeaves1OrOneLess();
        plainWantsUnlikeRests();
        plainIsAsWideAsTheRound();
        sameOfRests0ToALess1();
        sameIsNoneWhereNoStrikeIs();
        sameCountsAllStrikes();
        missedLeavesOutTheTwoOfOneBit();
        missedOfTwosThatFit();
        oddsOf1To4Strikes();
        oddsAreInLeastTerms();
        oddsOfTwoAreByMissed();
        seenAre6AtMost();
        seenWordsAre1To9999();
        seenFitsOrNot();
        forgottenIsHowMuchWas();
        unseenAreConstants3To199();
        unseenIsNoneIfNoneIsLeft();
        unseenWhats();
        tryIsNoneIfOneCanBeAtMost();
        tryIs1To99();
        tryIsTheLeastOfSeveral();
        kindsAreAsIfMended();
        registerWhats();
        imagesAre0And1();
        imagesKeepNothingElse();
        imagesAreNotKeptAtFirst();
        nothingIsUndoneBehindBack();
        imagesStay();
        countWhats();
        CHECK.end();
    }

    private static void due(String call, int got, int want) {
        CHECK.due(call, got, want);
    }

    private static void bad(String what, ToIntFunction<CodedWords> call) {
        TWINS.changesNothing(what, Made::busy, call, BAD);
    }

    private static CodedWords seeing(int... wordsAndFits) {
        CodedWords x = new CodedWords();
        for (int i = 0; i + 1 < wordsAndFits.length; i += 2) {
            x.sees(wordsAndFits[i], wordsAndFits[i + 1]);
        }
        return x;
    }

    private static void asks(String what, ToIntFunction<CodedWords> call) {
        int answer = call.applyAsInt(Made.busy());
        CHECK.holds(what + " is no refusal", answer >= NONE);
        TWINS.changesNothing(what, Made::busy, call, answer);
    }

    private static void nothingIsChanged() {
        asks("weight", x -> x.weight(77));
        asks("distance", x -> x.distance(3, 16));
        asks("least", x -> x.least(5, 16));
        asks("round", x -> x.round(199));
        asks("plain", x -> x.plain(7, 16));
        asks("same", x -> x.same(18, 0));
        asks("same, the first", x -> x.same(0, 1));
        asks("missed", CodedWords::missed);
        for (int t = 1; t <= 4; t++) {
            int many = t;
            asks("odds of " + t, x -> x.odds(many, 0) + x.odds(many, 1));
        }
        asks("unseen", x -> x.unseen(0));
        asks("unseen, the least", x -> x.unseen(1));
        asks("next", CodedWords::next);
        for (int what = 0; what <= 7; what++) {
            int which = what;
            asks("register " + what, x -> x.register(3, which));
        }
        for (int what = 0; what <= 6; what++) {
            int which = what;
            asks("count " + what, x -> x.count(which));
        }
    }

    private static void weightGoesTo99999() {
        CodedWords x = new CodedWords();
        due("weight(99999)", x.weight(99999), 7);
        due("weight(-99999)", x.weight(-99999), 7);
        due("weight(99998)", x.weight(99998), 7);
        int[] wrong = {100000, -100000, 100001, -100001, 131072, LOW, LOW + 1, HIGH};
        for (int v : wrong) {
            bad("weight(" + v + ")", y -> y.weight(v));
        }
    }

    private static void weightOfSignedDigits() {
        CodedWords x = new CodedWords();
        int[][] dues = {{0, 0}, {1, 1}, {2, 1}, {3, 2}, {4, 1}, {5, 2}, {6, 2}, {7, 2}, {8, 1}, {9, 2}, {10, 2}, {11, 3}, {12, 2}, {13, 3},
            {14, 2}, {15, 2}, {16, 1}, {21, 3}, {42, 3}, {43, 4}, {85, 4}, {170, 4}, {171, 5}, {32767, 2}, {32768, 1}, {43691, 9},
            {65535, 2}, {65536, 1}, {65537, 2}, {87381, 9}, {98304, 2}};
        for (int[] due : dues) {
            due("weight(" + due[0] + ")", x.weight(due[0]), due[1]);
            due("weight(" + -due[0] + ")", x.weight(-due[0]), due[1]);
        }
    }

    private static void distanceOfConstantsAndWidths() {
        CodedWords x = new CodedWords();
        due("distance(3, 4)", x.distance(3, 4), 2);
        due("distance(3, 16)", x.distance(3, 16), 2);
        due("distance(199, 16)", x.distance(199, 16), 3);
        int[] wrong = {1, 2, 4, 198, 200, 201, 0, -3, LOW, LOW + 1, HIGH};
        for (int a : wrong) {
            bad("distance(" + a + ", 9)", y -> y.distance(a, 9));
        }
        int[] wrongWidths = {3, 17, 0, -4, 36, LOW, HIGH};
        for (int width : wrongWidths) {
            bad("distance(13, " + width + ")", y -> y.distance(13, width));
        }
    }

    private static void distanceIsBelowThePowerOf2() {
        CodedWords x = new CodedWords();
        int[][] dues = {{15, 4, 2}, {31, 5, 2}, {63, 6, 2}, {127, 7, 2}, {17, 5, 2}, {33, 6, 2}, {11, 4, 3}, {11, 5, 3}, {11, 6, 2},
            {13, 6, 3}, {13, 7, 2}, {19, 9, 3}, {19, 10, 2}, {23, 10, 3}, {23, 11, 2}, {43, 7, 4}, {43, 8, 2}, {171, 9, 5}, {171, 10, 2},
            {199, 8, 4}, {199, 9, 4}};
        for (int[] due : dues) {
            due("distance(" + due[0] + ", " + due[1] + ")", x.distance(due[0], due[1]), due[2]);
        }
    }

    private static void distanceIsNoneWithoutAMultiple() {
        CodedWords x = new CodedWords();
        for (int width = 4; width <= 7; width++) {
            int end = 1 << width;
            CHECK.holds("one below 2 to the power of " + width + " is a multiple", x.distance(end - 1, width) == 2);
            due("one beyond 2 to the power of " + width, x.distance(end + 1, width), NONE);
        }
        due("distance(199, 7)", x.distance(199, 7), NONE);
        due("distance(199, 4)", x.distance(199, 4), NONE);
        for (int a = 3; a <= 199; a += 2) {
            CHECK.holds("a multiple of " + a + " is below 256", x.distance(a, 8) != NONE);
        }
    }

    private static void leastIsForDistances1To5() {
        CodedWords x = new CodedWords();
        int[] eight = {3, 3, 19, 77, 171};
        for (int d = 1; d <= 5; d++) {
            due("least(" + d + ", 8)", x.least(d, 8), eight[d - 1]);
        }
        int[] wrong = {0, 6, -1, 7, LOW, HIGH};
        for (int d : wrong) {
            bad("least(" + d + ", 9)", y -> y.least(d, 9));
        }
        int[] wrongWidths = {3, 17, 0, 36, LOW, HIGH};
        for (int width : wrongWidths) {
            bad("least(1, " + width + ")", y -> y.least(1, width));
        }
        due("least(1, 4)", x.least(1, 4), 3);
        due("least(1, 16)", x.least(1, 16), 3);
    }

    /** The least numbers of WEIGHT 3, 4, 5 are 11, 43, 171. */
    private static void leastIsNoneIfNoneIsEnough() {
        CodedWords x = new CodedWords();
        due("least(3, 4)", x.least(3, 4), 11);
        due("least(4, 5)", x.least(4, 5), NONE);
        due("least(4, 6)", x.least(4, 6), 43);
        due("least(5, 7)", x.least(5, 7), NONE);
        due("least(5, 8)", x.least(5, 8), 171);
        due("least(5, 16)", x.least(5, 16), NONE);
    }

    private static void leastIsThatOrMore() {
        CodedWords x = new CodedWords();
        for (int width = 4; width <= 16; width++) {
            for (int d = 1; d <= 5; d++) {
                int least = x.least(d, width);
                for (int a = 3; a < (least == NONE ? 200 : least); a += 2) {
                    CHECK.holds("below least(" + d + ", " + width + ") " + a + " is not enough", new CodedWords().distance(a, width) < d);
                }
                CHECK.holds("least(" + d + ", " + width + ") is enough", least == NONE || x.distance(least, width) >= d);
            }
        }
    }

    private static void roundIs1OrMore() {
        CodedWords x = new CodedWords();
        due("round(3): 2 is one less than it", x.round(3), 1);
        due("round(199)", x.round(199), 99);
        due("round(197)", x.round(197), 98);
        int[] wrong = {1, 2, 4, 198, 200, 201, 0, -1, -3, LOW, LOW + 1, HIGH};
        for (int a : wrong) {
            bad("round(" + a + ")", y -> y.round(a));
        }
    }

    private static void roundLeaves1OrOneLess() {
        CodedWords x = new CodedWords();
        int[][] one = {{7, 3}, {15, 4}, {31, 5}, {63, 6}, {127, 7}};
        for (int[] due : one) {
            due("1 is left: round(" + due[0] + ")", x.round(due[0]), due[1]);
        }
        int[][] less = {{5, 2}, {9, 3}, {17, 4}, {33, 5}, {65, 6}, {129, 7}};
        for (int[] due : less) {
            due("one less is left: round(" + due[0] + ")", x.round(due[0]), due[1]);
        }
        for (int a = 3; a <= 199; a += 2) {
            int round = x.round(a);
            int left = 1;
            for (int n = 1; n <= round; n++) {
                left = 2 * left % a;
                CHECK.holds("2 to the power of " + n + " by " + a, (left == 1 || left == a - 1) == (n == round));
            }
        }
    }

    private static void plainWantsUnlikeRests() {
        CodedWords x = new CodedWords();
        int[][] dues = {{3, 4, 0}, {7, 4, 0}, {9, 4, 0}, {11, 4, 1}, {11, 5, 1}, {11, 6, 0}, {13, 6, 1}, {13, 7, 0}, {15, 4, 1}, {15, 5, 0},
            {17, 4, 1}, {17, 5, 0}, {19, 9, 1}, {19, 10, 0}, {199, 4, 1}, {199, 16, 1}, {3, 16, 0}};
        for (int[] due : dues) {
            due("plain(" + due[0] + ", " + due[1] + ")", x.plain(due[0], due[1]), due[2]);
        }
        int[] wrong = {1, 2, 4, 198, 200, 201, 0, -3, LOW, LOW + 1, HIGH};
        for (int a : wrong) {
            bad("plain(" + a + ", 9)", y -> y.plain(a, 9));
        }
        int[] wrongWidths = {3, 17, 0, 36, LOW, HIGH};
        for (int width : wrongWidths) {
            bad("plain(13, " + width + ")", y -> y.plain(13, width));
        }
    }

    /** RESTS of STRIKES come again just where powers of 2 come round. */
    private static void plainIsAsWideAsTheRound() {
        for (int a = 3; a <= 199; a += 2) {
            CodedWords x = new CodedWords();
            for (int width = 4; width <= 16; width++) {
                due("plain(" + a + ", " + width + ")", x.plain(a, width), width <= x.round(a) ? 1 : 0);
            }
        }
    }

    private static void sameOfRests0ToALess1() {
        for (int a = 3; a <= 199; a += 2) {
            int constant = a;
            CodedWords x = Made.with(a, 9);
            due("the first of 1 by " + a, x.same(1, 1), 0);
            due("the first of " + (a - 1), x.same(a - 1, 1), 1);
            due(a + " is no REST", x.same(a, 0), BAD);
            due(a + " has no first", x.same(a, 1), BAD);
            due("-1 is no REST", x.same(-1, 0), BAD);
            TWINS.changesNothing("same(" + a + ", 0)", () -> Made.with(constant, 9), y -> y.same(constant, 0), BAD);
        }
        int[] wrong = {-1, 19, 20, LOW, HIGH};
        for (int rest : wrong) {
            bad("same(" + rest + ", 0)", y -> y.same(rest, 0));
            bad("same(" + rest + ", 1)", y -> y.same(rest, 1));
        }
        int[] wrongWhats = {-1, 2, LOW, HIGH};
        for (int what : wrongWhats) {
            bad("same(0, " + what + ")", y -> y.same(0, what));
            bad("same(18, " + what + ")", y -> y.same(18, what));
        }
    }

    private static void sameIsNoneWhereNoStrikeIs() {
        CodedWords x = Made.with(199, 4);
        due("0 is never left", x.same(0, 0), 0);
        due("so it has no first", x.same(0, 1), NONE);
        due("8 by 4 bits", x.same(8, 0), 1);
        due("its STRIKE", x.same(8, 1), 6);
        due("16 by 4 bits", x.same(16, 0), 0);
        due("it has no first", x.same(16, 1), NONE);
        due("16 by 5 bits", Made.with(199, 5).same(16, 1), 8);
        due("191 is 8 less", x.same(191, 1), 7);
        due("183 is 16 less", x.same(183, 1), NONE);
        due("1 by 13, 6 bits", Made.with(13, 6).same(1, 0), 1);
        due("1 by 13, 7 bits: 64 less, too", Made.with(13, 7).same(1, 0), 2);
    }

    private static void sameCountsAllStrikes() {
        for (int a = 3; a <= 199; a += 28) {
            for (int width = 4; width <= 16; width++) {
                CodedWords x = Made.with(a, width);
                int all = 0;
                for (int rest = 0; rest < a; rest++) {
                    int many = x.same(rest, 0);
                    CHECK.holds("NONE is the first if there is none", (x.same(rest, 1) == NONE) == (many == 0));
                    all += many;
                }
                due("STRIKES of width " + width + " by " + a, all, 2 * width);
            }
        }
    }

    private static void missedLeavesOutTheTwoOfOneBit() {
        int[][] plain = {{13, 6}, {15, 4}, {19, 9}, {199, 16}, {11, 5}, {17, 4}};
        for (int[] code : plain) {
            due("missed of " + code[0] + ", " + code[1], Made.with(code[0], code[1]).missed(), 0);
        }
    }

    private static void missedOfTwosThatFit() {
        int[][] dues = {{13, 7, 2}, {13, 8, 4}, {13, 9, 6}, {15, 5, 2}, {17, 5, 2}, {19, 10, 2}, {11, 6, 2}, {3, 4, 12}, {3, 5, 20},
            {3, 16, 240}, {7, 4, 2}, {5, 4, 4}};
        for (int[] due : dues) {
            due("missed of " + due[0] + ", " + due[1], Made.with(due[0], due[1]).missed(), due[2]);
        }
    }

    private static void oddsOf1To4Strikes() {
        int[][] three = {{0, 1}, {1, 2}, {1, 4}, {3, 8}};
        for (int width = 4; width <= 16; width++) {
            CodedWords x = Made.with(3, width);
            for (int t = 1; t <= 4; t++) {
                due("upper of " + t + " by 3", x.odds(t, 0), three[t - 1][0]);
                due("lower of " + t + " by 3", x.odds(t, 1), three[t - 1][1]);
            }
        }
        int[] wrong = {0, 5, -1, 6, LOW, HIGH};
        for (int t : wrong) {
            bad("odds(" + t + ", 0)", y -> y.odds(t, 0));
            bad("odds(" + t + ", 1)", y -> y.odds(t, 1));
        }
        int[] wrongWhats = {-1, 2, LOW, HIGH};
        for (int what : wrongWhats) {
            bad("odds(1, " + what + ")", y -> y.odds(1, what));
            bad("odds(4, " + what + ")", y -> y.odds(4, what));
        }
    }

    private static void oddsAreInLeastTerms() {
        for (int a = 3; a <= 199; a += 4) {
            for (int width = 4; width <= 16; width += 3) {
                CodedWords x = Made.with(a, width);
                int all = 1;
                for (int t = 1; t <= 4; t++) {
                    all *= 2 * width;
                    int upper = x.odds(t, 0);
                    int lower = x.odds(t, 1);
                    CHECK.holds("no number divides " + upper + " and " + lower, greatestOfBoth(upper, lower) == 1);
                    CHECK.holds(lower + " divides " + all, all % lower == 0 && upper >= 0 && upper < lower);
                }
                due("one alone never FITS", x.odds(1, 0), 0);
                due("0 by 1", x.odds(1, 1), 1);
            }
        }
    }

    private static int greatestOfBoth(int one, int other) {
        return other == 0 ? one : greatestOfBoth(other, one % other);
    }

    /** Two that FIT are the two of one bit, or a two that is missed; each one behind the other in both ways. */
    private static void oddsOfTwoAreByMissed() {
        for (int a = 3; a <= 199; a += 2) {
            for (int width = 4; width <= 16; width++) {
                CodedWords x = Made.with(a, width);
                int fitting = 2 * width + 2 * x.missed();
                due("odds of two by " + a + ", " + width, x.odds(2, 0) * (4 * width * width), fitting * x.odds(2, 1));
            }
        }
    }

    private static void seenAre6AtMost() {
        CodedWords x = new CodedWords();
        for (int many = 1; many <= 6; many++) {
            due("SEEN", x.sees(2, 0), many);
            due("count(5)", x.count(5), many);
        }
        due("a seventh", x.sees(2, 0), FULL);
        TWINS.changesNothing("a seventh", Made::busy, y -> y.sees(3, 1), FULL);
        TWINS.changesNothing("a seventh that does not FIT", Made::busy, y -> y.sees(9999, 0), FULL);
        due("all six count: 7 is out by the last", seeing(21, 1, 2, 0, 2, 0, 2, 0, 2, 0, 7, 0).unseen(0), 2);
        due("and not by one behind them", seeing(21, 1, 2, 0, 2, 0, 2, 0, 2, 0, 2, 0, 7, 0).unseen(0), 3);
        x.forget();
        due("there is room again", x.sees(2, 0), 1);
    }

    private static void seenWordsAre1To9999() {
        due("1", new CodedWords().sees(1, 1), 1);
        due("9999", new CodedWords().sees(9999, 1), 1);
        int[] wrong = {0, 10000, -1, -9999, 10001, LOW, HIGH};
        for (int word : wrong) {
            for (int fits = 0; fits <= 1; fits++) {
                int fit = fits;
                TWINS.changesNothing("sees(" + word + ", " + fits + ")", Made::narrow, y -> y.sees(word, fit), BAD);
            }
        }
    }

    private static void seenFitsOrNot() {
        due("15 FITS: 3, 5, 15", seeing(15, 1).unseen(0), 3);
        due("15 does not: all but these", seeing(15, 0).unseen(0), 96);
        int[] wrong = {-1, 2, 3, LOW, HIGH};
        for (int fits : wrong) {
            TWINS.changesNothing("sees(15, " + fits + ")", Made::narrow, y -> y.sees(15, fits), BAD);
        }
    }

    private static void forgottenIsHowMuchWas() {
        for (int many = 0; many <= 6; many++) {
            CodedWords x = new CodedWords();
            for (int i = 0; i < many; i++) {
                x.sees(15, 1);
            }
            due("forget", x.forget(), many);
            due("nothing is SEEN", x.count(5), 0);
            due("all constants are left", x.unseen(0), 99);
            due("forget once more", x.forget(), 0);
        }
        Supplier<CodedWords> forgetful = () -> {
            CodedWords x = Made.busy();
            x.forget();
            return x;
        };
        TWINS.changesNothing("forget of nothing", forgetful, CodedWords::forget, 0);
        CodedWords x = Made.busy();
        x.forget();
        due("all else stays", x.count(6), 12);
        due("image 0 stays", x.back(0), 7);
    }

    private static void unseenAreConstants3To199() {
        due("all", new CodedWords().unseen(0), 99);
        due("the least of all", new CodedWords().unseen(1), 3);
        due("3 alone", seeing(3, 1).unseen(0), 1);
        due("3 is it", seeing(3, 1).unseen(1), 3);
        due("199 alone", seeing(199, 1).unseen(0), 1);
        due("199 is it", seeing(199, 1).unseen(1), 199);
        due("398 is 2 times 199, 2 and 398 are none", seeing(398, 1).unseen(0), 1);
        due("201 is none: 3, 67", seeing(201, 1).unseen(0), 2);
        due("197 and 199 are unlike", seeing(197, 1, 199, 1).unseen(0), 0);
        due("without 3: 5", seeing(3, 0).unseen(1), 5);
        due("without 3: 98", seeing(3, 0).unseen(0), 98);
        due("without 199: 98", seeing(199, 0).unseen(0), 98);
        due("9999: 3, 9, 11, 33, 99, 101", seeing(9999, 1).unseen(0), 6);
    }

    private static void unseenIsNoneIfNoneIsLeft() {
        due("1 FITS none", seeing(1, 1).unseen(0), 0);
        due("no least", seeing(1, 1).unseen(1), NONE);
        due("1 does not FIT any", seeing(1, 0).unseen(0), 99);
        due("8192 FITS none", seeing(8192, 1).unseen(1), NONE);
        due("a word FITS and does not", seeing(15, 1, 15, 0).unseen(1), NONE);
        due("one is left", seeing(15, 1, 3, 0, 5, 0).unseen(0), 1);
        due("that one", seeing(15, 1, 3, 0, 5, 0).unseen(1), 15);
        due("none is left", seeing(15, 1, 3, 0, 5, 0, 45, 0).unseen(0), 0);
        due("none", seeing(15, 1, 3, 0, 5, 0, 45, 0).unseen(1), NONE);
    }

    private static void unseenWhats() {
        int[] wrong = {-1, 2, 3, LOW, HIGH};
        for (int what : wrong) {
            bad("unseen(" + what + ")", y -> y.unseen(what));
        }
    }

    private static void tryIsNoneIfOneCanBeAtMost() {
        due("two can be: 3, 9", seeing(9, 1).next(), 3);
        due("one can be: 9", seeing(9, 1, 3, 0).next(), NONE);
        due("none can be", seeing(9, 1, 3, 0, 9, 0).next(), NONE);
        due("one can be: 199", seeing(199, 1).next(), NONE);
        due("none at once", seeing(1, 1).next(), NONE);
    }

    private static void tryIs1To99() {
        CodedWords last = seeing(1287, 1, 429, 0, 9, 0);
        due("99, 117 can be", last.unseen(0), 2);
        due("99 is the last word to try", last.next(), 99);
        CodedWords beyond = seeing(945, 1, 315, 0, 27, 0);
        due("135, 189 can be", beyond.unseen(0), 2);
        due("they are parted beyond 99 only, so all words are alike: the first", beyond.next(), 1);
    }

    /** 45, 63, 75, 90, 99 all FIT five constants, and no word FITS more. */
    private static void tryIsTheLeastOfSeveral() {
        due("of all constants", new CodedWords().next(), 45);
        due("5, 15 of 3, 5, 15: both 3 and 5 part two from one", seeing(15, 1).next(), 3);
        due("3, 9, 11, 33, 99, 101: 33 parts three from three", seeing(9999, 1).next(), 33);
        due("7, 13 of 7, 13, 91 part alike", seeing(91, 1).next(), 7);
        due("9, 15, 45: 9 parts one from two, so do 15 and 45 no better", seeing(45, 1, 3, 0, 5, 0).next(), 9);
    }

    /** Every word that can be, with every residue: the VERDICT is what mending then answers. */
    private static void kindsAreAsIfMended() {
        int[][] codes = {{3, 4}, {7, 4}, {15, 4}, {17, 4}, {199, 4}, {5, 5}};
        for (int[] code : codes) {
            int end = 2 * ((1 << code[1]) - 1);
            for (int word = -end; word <= end; word++) {
                for (int residue = 0; residue <= 14; residue++) {
                    verdict(code[0], code[1], word, residue);
                }
            }
        }
    }

    private static void verdict(int a, int width, int word, int residue) {
        String at = word + ", " + residue + " by " + a + ", width " + width;
        CodedWords x = Made.with(a, width, word, residue);
        int kind = x.register(0, 5);
        int strike = x.register(0, 6);
        int causes = x.register(0, 7);
        int[] answers = {0, 1, 2 + strike, LOST};
        CHECK.holds(at + ": STRIKE just where it is STRUCK", (strike != NONE) == (kind == 2));
        CHECK.holds(at + ": one CAUSE just where it is STRUCK", (causes == 1) == (kind == 2));
        CHECK.holds(at + ": RIGHT just where it is", (kind == 0) == (x.register(0, 4) == 1));
        CHECK.holds(at + ": RIGHT or RESIDUE have no CAUSES", kind > 1 || causes == 0);
        due(at + ": mends", x.mends(0), answers[kind]);
        due(at + ": RIGHT behind it", x.register(0, 4), kind == 3 ? 0 : 1);
    }

    private static void registerWhats() {
        int[] struck = {-498, 4, 15, NONE, 0, 2, 5, 1};
        for (int what = 0; what <= 7; what++) {
            due("register(3, " + what + ")", Made.busy().register(3, what), struck[what]);
        }
        int[] wrong = {-1, 8, 9, LOW, HIGH};
        for (int what : wrong) {
            bad("register(0, " + what + ")", y -> y.register(0, what));
            bad("register(3, " + what + ")", y -> y.register(3, what));
        }
    }

    private static void imagesAre0And1() {
        for (int image = 0; image <= 1; image++) {
            CodedWords x = Made.with(21, 8, 42, 2);
            due("keep(" + image + ")", x.keep(image), 21);
            x.codes(3, 4);
            due("back(" + image + ")", x.back(image), 21);
            due("WIDTH", x.count(1), 8);
            due("WORD", x.register(0, 0), 42);
        }
        int[] none = {-1, 2, 3, LOW, HIGH};
        for (int image : none) {
            bad("keep(" + image + ")", y -> y.keep(image));
            bad("back(" + image + ")", y -> y.back(image));
            TWINS.changesNothing("back(" + image + "), no image kept", CodedWords::new, y -> y.back(image), BAD);
        }
    }

    private static void imagesKeepNothingElse() {
        CodedWords x = Made.busy();
        x.forget();
        x.sees(15, 1);
        due("back", x.back(0), 7);
        due("SEEN is as before back", x.count(5), 1);
        due("UNSEEN is as before back", x.unseen(0), 3);
        due("the other image is as it was", x.back(1), 19);
        due("its register", x.register(1, 1), 14);
    }

    private static void imagesAreNotKeptAtFirst() {
        TWINS.changesNothing("back(0) at first", CodedWords::new, x -> x.back(0), STATE);
        TWINS.changesNothing("back(1) at first", CodedWords::new, x -> x.back(1), STATE);
        TWINS.changesNothing("0 is kept, 1 is not", Made::wide, x -> x.back(1), STATE);
        TWINS.changesNothing("1 is kept, 0 is not", Made::narrow, x -> x.back(0), STATE);
        due("0 is kept", Made.wide().back(0), 199);
        due("1 is kept", Made.narrow().back(1), 3);
    }

    private static void nothingIsUndoneBehindBack() {
        CodedWords x = Made.busy();
        due("ahead of back", x.count(6), 12);
        x.back(1);
        due("behind back", x.count(6), 0);
        due("undo behind back", x.undo(), STATE);
        x.sets(0, 1);
        x.sets(0, 2);
        due("two more", x.count(6), 2);
        due("undo", x.undo(), 1);
        due("undo", x.undo(), 0);
        due("not beyond back", x.undo(), STATE);
        due("as the image has it", x.register(1, 1), 14);
        CodedWords y = Made.busy();
        y.keep(1);
        due("keep leaves what may be UNDONE", y.count(6), 12);
    }

    private static void imagesStay() {
        CodedWords x = Made.with(13, 9, 13, 1);
        x.keep(0);
        for (int times = 1; times <= 3; times++) {
            x.strikes(0, 0);
            x.bends(0, 1);
            due("back once more", x.back(0), 13);
            due("WORD", x.register(0, 0), 13);
            due("RESIDUE", x.register(0, 1), 1);
        }
        x.sets(0, 2);
        x.keep(0);
        x.undo();
        due("undo leaves the image", x.back(0), 13);
        due("it was kept anew", x.register(0, 0), 26);
    }

    private static void countWhats() {
        int[] busy = {19, 9, 511, 26, 0, 6, 12};
        for (int what = 0; what <= 6; what++) {
            due("count(" + what + ")", Made.busy().count(what), busy[what]);
        }
        int[] wrong = {-1, 7, 8, LOW, HIGH};
        for (int what : wrong) {
            bad("count(" + what + ")", y -> y.count(what));
        }
    }
}
