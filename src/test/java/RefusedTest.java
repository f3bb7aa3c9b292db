import java.util.ArrayList;
import java.util.List;
import java.util.function.Supplier;
import java.util.function.ToIntFunction;

/**
 * The sentence "Refused, and nothing changes, the first of these: BAD, STATE, FULL, OVER": every call that
 * can be refused is, in several states, and leaves nothing changed; where two refusals meet, the first is answered.
 */
public final class RefusedTest {
    private static final Check CHECK = new Check();
    private static final Twins TWINS = new Twins(CHECK);
    private static final int BAD = -1000001, STATE = -1000002, FULL = -1000003, OVER = -1000004, LOST = -1000005;
    private static final int LOW = Integer.MIN_VALUE, HIGH = Integer.MAX_VALUE;

    public static void main(String[] args) {
        badInEveryState();
        badGoesAheadOfState();
        badGoesAheadOfFull();
        badGoesAheadOfOver();
        oneBadNumberIsEnough();
        stateWhereTold();
        overWhereTold();
        fullWhereTold();
        whatIsLegalElsewhereIsBadHere();
        CHECK.end();
    }

    private static void refused(String what, Supplier<CodedWords> made, ToIntFunction<CodedWords> call, int want) {
        TWINS.changesNothing(what, made, call, want);
    }

    private static List<Supplier<CodedWords>> states() {
        List<Supplier<CodedWords>> all = new ArrayList<>();
        all.add(CodedWords::new);
        all.add(Made::busy);
        all.add(Made::narrow);
        all.add(Made::wide);
        return all;
    }

    private static void badInEveryState() {
        int number = 0;
        for (Supplier<CodedWords> made : states()) {
            badCalls("state " + number++ + ": ", made, made.get().count(0), made.get().count(1), made.get().count(3));
        }
    }

    private static void badCalls(String at, Supplier<CodedWords> made, int a, int width, int reach) {
        refused(at + "codes, even A", made, x -> x.codes(100, 9), BAD);
        refused(at + "codes, A 1", made, x -> x.codes(1, 9), BAD);
        refused(at + "codes, A 201", made, x -> x.codes(201, 9), BAD);
        refused(at + "codes, width 3", made, x -> x.codes(13, 3), BAD);
        refused(at + "codes, width 17", made, x -> x.codes(13, 17), BAD);
        refused(at + "sets, beyond reach", made, x -> x.sets(0, reach + 1), BAD);
        refused(at + "sets, below reach", made, x -> x.sets(3, -reach - 1), BAD);
        refused(at + "sets, register 4", made, x -> x.sets(4, 0), BAD);
        refused(at + "does, op 6", made, x -> x.does(6, 0, 0), BAD);
        refused(at + "does, op -1", made, x -> x.does(-1, 0, 0), BAD);
        refused(at + "does, r 4", made, x -> x.does(0, 4, 0), BAD);
        refused(at + "does, s 4", made, x -> x.does(1, 0, 4), BAD);
        refused(at + "strikes, beyond the width", made, x -> x.strikes(1, 2 * width), BAD);
        refused(at + "strikes, below 0", made, x -> x.strikes(1, -1), BAD);
        refused(at + "bends by 0", made, x -> x.bends(1, 0), BAD);
        refused(at + "bends by 15", made, x -> x.bends(1, 15), BAD);
        refused(at + "mends, register -1", made, x -> x.mends(-1), BAD);
        refused(at + "register, what 8", made, x -> x.register(0, 8), BAD);
        refused(at + "weight", made, x -> x.weight(100000), BAD);
        refused(at + "distance", made, x -> x.distance(201, 9), BAD);
        refused(at + "least", made, x -> x.least(6, 9), BAD);
        refused(at + "round", made, x -> x.round(1), BAD);
        refused(at + "plain", made, x -> x.plain(13, 17), BAD);
        refused(at + "same, A itself", made, x -> x.same(a, 0), BAD);
        refused(at + "odds", made, x -> x.odds(5, 0), BAD);
        refused(at + "sees, 0", made, x -> x.sees(0, 0), BAD);
        refused(at + "sees, 10000", made, x -> x.sees(10000, 1), BAD);
        refused(at + "sees, fits 2", made, x -> x.sees(1, 2), BAD);
        refused(at + "unseen", made, x -> x.unseen(2), BAD);
        refused(at + "keep", made, x -> x.keep(2), BAD);
        refused(at + "back", made, x -> x.back(2), BAD);
        refused(at + "count", made, x -> x.count(7), BAD);
    }

    private static void badGoesAheadOfState() {
        refused("HALF would be STATE, but there is no such register", Made::busy, x -> x.does(5, 4, 0), BAD);
        refused("2 TOP would be passed, but there is no such STRIKE", Made::busy, x -> x.strikes(0, 18), BAD);
        refused("2 TOP would be passed, it is the last STRIKE but one", Made::busy, x -> x.strikes(0, 16), STATE);
        refused("no image was kept, and there is no such image", CodedWords::new, x -> x.back(2), BAD);
        refused("no image was kept, but there is such an image", CodedWords::new, x -> x.back(1), STATE);
    }

    private static void badGoesAheadOfFull() {
        refused("six are SEEN, the word is 0", Made::busy, x -> x.sees(0, 1), BAD);
        refused("six are SEEN, the word is 10000", Made::busy, x -> x.sees(10000, 1), BAD);
        refused("six are SEEN, fits is 2", Made::busy, x -> x.sees(1, 2), BAD);
        refused("six are SEEN, fits is -1", Made::busy, x -> x.sees(1, -1), BAD);
        refused("six are SEEN", Made::busy, x -> x.sees(1, 1), FULL);
    }

    private static void badGoesAheadOfOver() {
        for (int op = 0; op <= 2; op++) {
            int which = op;
            refused("op " + op + " of 1022 would be OVER, but there is no s", Made::busy, x -> x.does(which, 0, 4), BAD);
        }
        refused("1022 and 494 is OVER", Made::busy, x -> x.does(0, 0, 1), OVER);
        refused("1022 less -1022 is OVER", Made::busy, x -> x.does(1, 0, 2), OVER);
        refused("1022 times -1022 is OVER", Made::busy, x -> x.does(2, 0, 2), OVER);
        refused("twice 1022 is OVER", Made::busy, x -> x.does(3, 0, 0), OVER);
        refused("0 less 1022 is OVER", Made::busy, x -> x.does(4, 0, 0), OVER);
    }

    private static void oneBadNumberIsEnough() {
        refused("codes, A alone", Made::busy, x -> x.codes(14, 9), BAD);
        refused("codes, width alone", Made::busy, x -> x.codes(13, 18), BAD);
        refused("codes, both", Made::busy, x -> x.codes(14, 18), BAD);
        refused("sets, both", Made::busy, x -> x.sets(4, 27), BAD);
        refused("strikes, both", Made::busy, x -> x.strikes(4, 18), BAD);
        refused("bends, both", Made::busy, x -> x.bends(4, 15), BAD);
        refused("register, both", Made::busy, x -> x.register(4, 8), BAD);
        refused("same, both", Made::busy, x -> x.same(19, 2), BAD);
        refused("odds, both", Made::busy, x -> x.odds(5, 2), BAD);
        refused("does, all", Made::busy, x -> x.does(6, 4, 4), BAD);
        refused("does, all far out", Made::busy, x -> x.does(HIGH, LOW, LOW), BAD);
    }

    private static void stateWhereTold() {
        refused("HALF of an odd number", Made::wide, x -> x.does(5, 0, 0), STATE);
        refused("HALF of what does not FIT", Made::busy, x -> x.does(5, 3, 0), STATE);
        refused("beyond 2 TOP", Made::narrow, x -> x.strikes(3, 0), STATE);
        refused("below -2 TOP", Made::busy, x -> x.strikes(2, 1), STATE);
        refused("nothing to undo", CodedWords::new, CodedWords::undo, STATE);
        refused("nothing to undo behind back", RefusedTest::gotBack, CodedWords::undo, STATE);
        refused("image 1 was not kept", Made::wide, x -> x.back(1), STATE);
        refused("image 0 was not kept", Made::narrow, x -> x.back(0), STATE);
        refused("LOST changes nothing either", Made::busy, x -> x.mends(0), LOST);
    }

    private static CodedWords gotBack() {
        CodedWords x = Made.busy();
        x.back(0);
        return x;
    }

    private static void overWhereTold() {
        refused("15 and 15", Made::narrow, x -> x.does(0, 0, 0), OVER);
        refused("15 less -15", Made::narrow, x -> x.does(1, 0, 1), OVER);
        refused("15 times 15 by 3", Made::narrow, x -> x.does(2, 0, 0), OVER);
        refused("twice -15", Made::narrow, x -> x.does(3, 1, 0), OVER);
        refused("0 less 30", Made::narrow, x -> x.does(4, 3, 0), OVER);
        refused("65471 and 65471", Made::wide, x -> x.does(0, 0, 0), OVER);
        refused("-65471 less 65471", Made::wide, x -> x.does(1, 1, 0), OVER);
        refused("65471 times -65471 by 199", Made::wide, x -> x.does(2, 0, 1), OVER);
    }

    private static void fullWhereTold() {
        CodedWords x = Made.narrow();
        for (int many = 4; many <= 6; many++) {
            CHECK.due("room for " + many, x.sees(2, 0), many);
        }
        CHECK.due("no room for a seventh", x.sees(2, 0), FULL);
        CHECK.due("forget", x.forget(), 6);
        CHECK.due("room again", x.sees(2, 0), 1);
    }

    /** What is BAD goes by the code of now: a VALUE, a STRIKE, a REST of another code is none here. */
    private static void whatIsLegalElsewhereIsBadHere() {
        CHECK.due("39 by 13, 9 bits", new CodedWords().sets(0, 39), 507);
        refused("39 by 19, 9 bits", Made::busy, x -> x.sets(0, 39), BAD);
        CHECK.due("STRIKE 17 by 9 bits", new CodedWords().strikes(0, 17), -256);
        refused("STRIKE 17 by 4 bits", Made::narrow, x -> x.strikes(0, 17), BAD);
        CHECK.due("REST 12 by 13", new CodedWords().same(12, 1), 1);
        refused("REST 12 by 3", Made::narrow, x -> x.same(12, 1), BAD);
        CodedWords x = Made.busy();
        CHECK.due("back to 7, 6 bits", x.back(0), 7);
        CHECK.due("VALUES go to 9 there", x.sets(0, 10), BAD);
        CHECK.due("9 is in reach", x.sets(0, 9), 63);
        CHECK.due("STRIKES go to 11 there", x.strikes(0, 12), BAD);
        CHECK.due("11 is one", x.strikes(0, 11), 31);
        CHECK.due("RESTS go to 6 there", x.same(7, 0), BAD);
        CHECK.due("6 is one", x.same(6, 1), 1);
        CodedWords y = new CodedWords();
        y.codes(3, 4);
        y.undo();
        CHECK.due("undone, VALUES go to 39 again", y.sets(0, 39), 507);
        CHECK.due("and no farther", y.sets(0, 40), BAD);
    }
}
