/** 'Terms' and part 1 of the document: each sentence that names a boundary has a test of its own, on both sides of it. */
public final class TermsTest {
    private static final Check CHECK = new Check();
    private static final Twins TWINS = new Twins(CHECK);
    private static final int BAD = -1000001, NONE = -1000000;
    private static final int LOW = Integer.MIN_VALUE, HIGH = Integer.MAX_VALUE;

    public static void main(String[] args) {
        aIsOddFrom3To199();
        aIs13AtFirst();
        widthIsFrom4To16();
        widthIs9AtFirst();
        topIsAPowerOf2Less1();
        valuesGoAsFarAsTop();
        valuesOfEveryCode();
        registersAre0To3();
        registersAre0AtFirst();
        residuesAre0To14();
        restIsAlsoOfNumbersBelow0();
        aWordFitsIfItsRestIs0();
        theValueIsTheWordByA();
        rightNeedsThatTheWordFits();
        rightNeedsThatTheValueIsInReach();
        rightNeedsTheResidue();
        strikesAreTwiceTheWidth();
        strikesAreMoreIfEvenLessIfOdd();
        anObjectIsUsedFor512Calls();
        objectsAreApart();
        CHECK.end();
    }

    private static void due(String call, int got, int want) {
        CHECK.due(call, got, want);
    }

    private static boolean isConstant(int a) {
        return a >= 3 && a <= 199 && (a & 1) == 1;
    }

    private static void aIsOddFrom3To199() {
        for (int a = -201; a <= 401; a++) {
            CodedWords x = new CodedWords();
            int reach = x.codes(a, 9);
            CHECK.holds("codes(" + a + ", 9) is BAD if it must", (reach == BAD) != isConstant(a));
            due("A behind codes(" + a + ", 9)", x.count(0), isConstant(a) ? a : 13);
        }
        due("A 3", new CodedWords().codes(3, 9), 170);
        due("A 199", new CodedWords().codes(199, 9), 2);
        int[] wrong = {1, 2, 4, 198, 200, 201, 0, -3, -13, -199, LOW, LOW + 1, HIGH, HIGH - 1};
        for (int a : wrong) {
            TWINS.changesNothing("codes(" + a + ", 9)", Made::busy, x -> x.codes(a, 9), BAD);
        }
    }

    private static void aIs13AtFirst() {
        due("A at first", new CodedWords().count(0), 13);
        due("12 is a REST by it", new CodedWords().same(12, 0), 2);
        due("13 is none", new CodedWords().same(13, 0), BAD);
    }

    private static void widthIsFrom4To16() {
        for (int width = -20; width <= 40; width++) {
            CodedWords x = new CodedWords();
            boolean good = width >= 4 && width <= 16;
            int reach = x.codes(3, width);
            CHECK.holds("codes(3, " + width + ") is BAD if it must", (reach == BAD) != good);
            due("WIDTH behind codes(3, " + width + ")", x.count(1), good ? width : 9);
        }
        int[] wrong = {3, 17, 0, -1, -4, 32, 36, 41, LOW, LOW + 4, HIGH};
        for (int width : wrong) {
            TWINS.changesNothing("codes(3, " + width + ")", Made::busy, x -> x.codes(3, width), BAD);
        }
    }

    private static void widthIs9AtFirst() {
        CodedWords x = new CodedWords();
        due("WIDTH at first", x.count(1), 9);
        due("the highest STRIKE of it", x.strikes(0, 17), -256);
        due("one higher", x.strikes(0, 18), BAD);
    }

    private static void topIsAPowerOf2Less1() {
        int[] tops = {15, 31, 63, 127, 255, 511, 1023, 2047, 4095, 8191, 16383, 32767, 65535};
        for (int width = 4; width <= 16; width++) {
            due("TOP of width " + width, Made.with(3, width).count(2), tops[width - 4]);
        }
        due("TOP at first", new CodedWords().count(2), 511);
    }

    /** Where A times a VALUE is TOP itself, one below it, one beyond it. */
    private static void valuesGoAsFarAsTop() {
        int[][] dues = {{3, 4, 5}, {5, 4, 3}, {7, 4, 2}, {15, 4, 1}, {17, 4, 0}, {199, 4, 0}, {13, 4, 1}, {127, 7, 1}, {129, 7, 0},
            {17, 8, 15}, {199, 7, 0}, {199, 8, 1}, {13, 9, 39}, {73, 9, 7}, {7, 9, 73}, {3, 16, 21845}, {199, 16, 329}};
        for (int[] due : dues) {
            int far = due[2];
            String at = "codes(" + due[0] + ", " + due[1] + "): ";
            CodedWords x = new CodedWords();
            due(at + "how far VALUES go", x.codes(due[0], due[1]), far);
            due(at + "count(3)", x.count(3), far);
            due(at + "the highest", x.sets(0, far), far * due[0]);
            due(at + "the lowest", x.sets(1, -far), -far * due[0]);
            TWINS.changesNothing(at + "one beyond", () -> Made.with(due[0], due[1]), y -> y.sets(0, far + 1), BAD);
            TWINS.changesNothing(at + "one below", () -> Made.with(due[0], due[1]), y -> y.sets(0, -far - 1), BAD);
        }
    }

    private static void valuesOfEveryCode() {
        for (int a = 3; a <= 199; a += 2) {
            for (int width = 4; width <= 16; width++) {
                String at = "codes(" + a + ", " + width + "): ";
                CodedWords x = new CodedWords();
                int far = x.codes(a, width);
                int top = (1 << width) - 1;
                CHECK.holds(at + "A times it is TOP at most, one more is not", a * far <= top && a * (far + 1) > top);
                due(at + "highest", x.sets(0, far), a * far);
                due(at + "lowest", x.sets(1, -far), -a * far);
                due(at + "beyond", x.sets(2, far + 1), BAD);
                due(at + "below", x.sets(2, -far - 1), BAD);
                due(at + "both are RIGHT", x.count(4), 4);
                due(at + "two were SET", x.count(6), 3);
            }
        }
    }

    private static void registersAre0To3() {
        for (int r = 0; r <= 3; r++) {
            CodedWords x = new CodedWords();
            due("sets", x.sets(r, 2), 26);
            due("does", x.does(0, r, 3 - r), 26);
            due("does, as s", x.does(0, 3 - r, r), 26);
            due("strikes", x.strikes(r, 0), 27);
            due("bends", x.bends(r, 2), 4);
            due("register", x.register(r, 0), 27);
            x.sets(r, 5);
            due("mends", x.mends(r), 0);
        }
        int[] none = {-1, 4, -2, 5, 8, 16, LOW, LOW + 3, HIGH};
        for (int r : none) {
            String at = "register " + r + ": ";
            TWINS.changesNothing(at + "sets", Made::busy, x -> x.sets(r, 1), BAD);
            for (int op = 0; op <= 5; op++) {
                int which = op;
                TWINS.changesNothing(at + "does " + op, Made::busy, x -> x.does(which, r, 1), BAD);
            }
            for (int op = 0; op <= 2; op++) {
                int which = op;
                TWINS.changesNothing(at + "does as s " + op, Made::wide, x -> x.does(which, 3, r), BAD);
            }
            TWINS.changesNothing(at + "strikes", Made::busy, x -> x.strikes(r, 0), BAD);
            TWINS.changesNothing(at + "bends", Made::busy, x -> x.bends(r, 1), BAD);
            TWINS.changesNothing(at + "mends", Made::busy, x -> x.mends(r), BAD);
            for (int what = 0; what <= 7; what++) {
                int which = what;
                TWINS.changesNothing(at + "register " + what, Made::busy, x -> x.register(r, which), BAD);
            }
        }
    }

    private static void registersAre0AtFirst() {
        int[] atFirst = {0, 0, 0, 0, 1, 0, NONE, 0};
        for (int r = 0; r <= 3; r++) {
            for (int what = 0; what <= 7; what++) {
                due("register(" + r + ", " + what + ") at first", new CodedWords().register(r, what), atFirst[what]);
            }
        }
    }

    private static void residuesAre0To14() {
        int[][] dues = {{0, 0}, {1, 1}, {14, 14}, {15, 0}, {16, 1}, {29, 14}, {30, 0}, {39, 9}, {-1, 14}, {-14, 1}, {-15, 0}, {-16, 14},
            {-30, 0}, {-31, 14}, {-39, 6}};
        for (int[] due : dues) {
            CodedWords x = new CodedWords();
            x.sets(0, due[0]);
            due("RESIDUE of " + due[0], x.register(0, 1), due[1]);
        }
        for (int from = 0; from <= 14; from++) {
            for (int d = 1; d <= 14; d++) {
                CodedWords x = new CodedWords();
                x.sets(0, from);
                int bent = from + d > 14 ? from + d - 15 : from + d;
                due(from + " bent by " + d, x.bends(0, d), bent);
                due(from + " bent by " + d + ", asked", x.register(0, 1), bent);
            }
        }
    }

    private static void restIsAlsoOfNumbersBelow0() {
        int[][] dues = {{0, 0}, {1, 1}, {12, 12}, {13, 0}, {14, 1}, {1022, 8}, {-1, 12}, {-12, 1}, {-13, 0}, {-14, 12}, {-1022, 5}};
        for (int[] due : dues) {
            due("REST of " + due[0], Made.with(13, 9, due[0], 0).register(0, 2), due[1]);
        }
        due("REST of -1 by 199", Made.with(199, 4, -1, 0).register(0, 2), 198);
        due("REST of -30 by 199", Made.with(199, 4, -30, 0).register(0, 2), 169);
        due("REST of 2 TOP by 3", Made.with(3, 16, 131070, 0).register(0, 2), 0);
    }

    private static void aWordFitsIfItsRestIs0() {
        for (int word = -30; word <= 30; word++) {
            int value = Made.with(7, 4, word, 0).register(0, 3);
            CHECK.holds(word + " FITS by 7 if it must", (value != NONE) == (word % 7 == 0));
        }
    }

    private static void theValueIsTheWordByA() {
        int[][] dues = {{0, 0}, {13, 1}, {-13, -1}, {12, NONE}, {14, NONE}, {-12, NONE}, {-14, NONE}, {507, 39}, {-507, -39},
            {520, 40}, {-520, -40}, {1014, 78}, {-1014, -78}, {1015, NONE}};
        for (int[] due : dues) {
            due("VALUE of " + due[0], Made.with(13, 9, due[0], 0).register(0, 3), due[1]);
        }
    }

    private static void right(String what, CodedWords x, int right) {
        due(what + ": register(0, 4)", x.register(0, 4), right);
        due(what + ": count(4)", x.count(4), 3 + right);
    }

    private static void rightNeedsThatTheWordFits() {
        right("13, 1", Made.with(13, 9, 13, 1), 1);
        right("12, 0: cut towards 0 it would be 0", Made.with(13, 9, 12, 0), 0);
        right("14, 1: cut towards 0 it would be 1", Made.with(13, 9, 14, 1), 0);
        right("-1, 0", Made.with(13, 9, -1, 0), 0);
        right("-13, 14", Made.with(13, 9, -13, 14), 1);
    }

    private static void rightNeedsThatTheValueIsInReach() {
        right("39 is in reach", Made.with(13, 9, 507, 9), 1);
        right("40 is not", Made.with(13, 9, 520, 10), 0);
        right("-39 is in reach", Made.with(13, 9, -507, 6), 1);
        right("-40 is not", Made.with(13, 9, -520, 5), 0);
        right("15 is TOP", Made.with(15, 4, 15, 1), 1);
        right("30 is not in reach", Made.with(15, 4, 30, 2), 0);
        right("-15 is -TOP", Made.with(15, 4, -15, 14), 1);
        right("-30 is not in reach", Made.with(15, 4, -30, 13), 0);
        right("17 is beyond TOP", Made.with(17, 4, 17, 1), 0);
        right("-17 is below -TOP", Made.with(17, 4, -17, 14), 0);
    }

    private static void rightNeedsTheResidue() {
        for (int residue = 0; residue <= 14; residue++) {
            right("130, " + residue, Made.with(13, 9, 130, residue), residue == 10 ? 1 : 0);
            right("-130, " + residue, Made.with(13, 9, -130, residue), residue == 5 ? 1 : 0);
            right("195, " + residue, Made.with(13, 9, 195, residue), residue == 0 ? 1 : 0);
        }
    }

    private static void strikesAreTwiceTheWidth() {
        for (int width = 4; width <= 16; width++) {
            int beyond = 2 * width;
            int wide = width;
            due("the last of width " + width, Made.with(5, width).strikes(0, beyond - 1), -(1 << width - 1));
            due("the last but one of width " + width, Made.with(5, width).strikes(0, beyond - 2), 1 << width - 1);
            TWINS.changesNothing("one beyond, width " + width, () -> Made.with(5, wide), x -> x.strikes(0, beyond), BAD);
            TWINS.changesNothing("two beyond, width " + width, () -> Made.with(5, wide), x -> x.strikes(0, beyond + 1), BAD);
            TWINS.changesNothing("below 0, width " + width, () -> Made.with(5, wide), x -> x.strikes(0, -1), BAD);
        }
        int[] wrong = {-2, 64, 65, LOW, LOW + 1, HIGH};
        for (int strike : wrong) {
            TWINS.changesNothing("strikes(3, " + strike + ")", Made::busy, x -> x.strikes(3, strike), BAD);
        }
    }

    private static void strikesAreMoreIfEvenLessIfOdd() {
        for (int width = 4; width <= 16; width++) {
            int size = 1;
            for (int k = 0; k < width; k++) {
                due("more by bit " + k, Made.with(5, width, 5, 1).strikes(0, 2 * k), 5 + size);
                due("less by bit " + k, Made.with(5, width, 5, 1).strikes(0, 2 * k + 1), 5 - size);
                size *= 2;
            }
        }
    }

    private static void anObjectIsUsedFor512Calls() {
        CodedWords x = new CodedWords();
        for (int call = 1; call <= 500; call++) {
            due("call " + call, x.sets(call % 4, call % 40), 13 * (call % 40));
        }
        for (int call = 501; call <= 511; call++) {
            due("call " + call, x.undo(), 512 - call);
        }
        due("call 512", x.undo(), 0);
        CodedWords y = new CodedWords();
        for (int call = 1; call <= 511; call++) {
            y.keep(call % 2);
        }
        due("call 512 of another", y.back(1), 13);
    }

    private static void objectsAreApart() {
        CodedWords x = new CodedWords();
        String before = Twins.asked(x);
        Made.busy();
        CHECK.holds("another object changes nothing of this one", before.equals(Twins.asked(x)));
        due("it has nothing to undo", x.undo(), -1000002);
        due("it has no image", x.back(0), -1000002);
    }
}
