import java.util.function.Function;
import java.util.function.Supplier;
import java.util.function.ToIntFunction;

/**
 * Holds that a call changes nothing: of two objects made alike one is given the call, and must not be
 * told from the other by anything that can be asked of them, be it by undoing all or by the images.
 */
final class Twins {
    private static final int STATE = -1000002, FULL = -1000003;

    private final Check check;

    Twins(Check check) {
        this.check = check;
    }

    /** The call answers this, and changes nothing. */
    void changesNothing(String what, Supplier<CodedWords> made, ToIntFunction<CodedWords> call, int want) {
        alike(what + ", by what is asked", made, call, want, Twins::asked);
        alike(what + ", by undoing all", made, call, want, Twins::undone);
        alike(what + ", by image 0", made, call, want, x -> x.back(0) + ":" + asked(x));
        alike(what + ", by image 1", made, call, want, x -> x.back(1) + ":" + asked(x));
        alike(what + ", by what is SEEN", made, call, want, Twins::seen);
    }

    private void alike(String what, Supplier<CodedWords> made, ToIntFunction<CodedWords> call, int want,
            Function<CodedWords, String> view) {
        CodedWords one = made.get();
        CodedWords other = made.get();
        check.due(what, call.applyAsInt(one), want);
        String now = view.apply(one);
        String due = view.apply(other);
        check.holds(what + ": " + now + " is as before, " + due, now.equals(due));
    }

    static String asked(CodedWords x) {
        StringBuilder all = new StringBuilder();
        for (int what = 0; what <= 6; what++) {
            all.append(x.count(what)).append(' ');
        }
        for (int r = 0; r < 4; r++) {
            for (int what = 0; what <= 7; what++) {
                all.append(x.register(r, what)).append(' ');
            }
        }
        all.append(x.missed()).append(' ').append(x.same(1, 0)).append(' ').append(x.same(2, 1)).append(' ');
        all.append(x.odds(2, 0)).append(' ').append(x.odds(2, 1)).append(' ');
        return all.append(x.unseen(0)).append(' ').append(x.unseen(1)).append(' ').append(x.next()).toString();
    }

    private static String undone(CodedWords x) {
        StringBuilder all = new StringBuilder();
        int left = x.count(6);
        // A broken class may never answer STATE, or FULL below: the views end all the same.
        for (int i = 0; i < 20 && left != STATE; i++) {
            all.append(left).append(": ").append(x.count(0)).append(' ').append(x.count(1));
            for (int r = 0; r < 4; r++) {
                all.append(' ').append(x.register(r, 0)).append(' ').append(x.register(r, 1));
            }
            all.append("; ");
            left = x.undo();
        }
        return all.toString();
    }

    private static String seen(CodedWords x) {
        StringBuilder all = new StringBuilder();
        int more = 0;
        for (int i = 0; i < 10 && more != FULL; i++) {
            all.append(more).append(' ').append(x.unseen(0)).append(' ').append(x.unseen(1)).append("; ");
            more = x.sees(1, 0);
        }
        return all.append(more).append(' ').append(x.forget()).append(' ').append(x.unseen(0)).toString();
    }
}
