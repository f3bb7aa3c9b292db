import java.util.Arrays;

/**
 * Arithmetic that checks itself: numbers are carried times a constant, with a residue beside each,
 * so that a struck word or a bent residue is seen and, where just one strike can have been, mended.
 * Words in capitals in the comments are the document's terms.
 */
public final class CodedWords {
    public static final int BAD = -1000001, STATE = -1000002, FULL = -1000003, OVER = -1000004, LOST = -1000005, NONE = -1000000;

    private static final int LOWEST_CONSTANT = 3;
    private static final int HIGHEST_CONSTANT = 199;
    private static final int FIRST_CONSTANT = 13;
    private static final int LOWEST_WIDTH = 4;
    private static final int HIGHEST_WIDTH = 16;
    private static final int FIRST_WIDTH = 9;
    private static final int REGISTERS = 4;
    private static final int RESIDUES_BY = 15;

    private static final int ADD = 0;
    private static final int SUB = 1;
    private static final int TIMES = 2;
    private static final int TWICE = 3;
    private static final int TURN = 4;
    private static final int HALF = 5;

    private static final int KIND_RIGHT = 0;
    private static final int KIND_RESIDUE = 1;
    private static final int KIND_STRUCK = 2;
    private static final int KIND_LOST = 3;

    private static final int STEPS_KNOWN = 12;
    private static final int IMAGES = 2;
    private static final int HEAVIEST = 99999;
    private static final int FARTHEST = 5;
    private static final int MOST_STRIKES = 4;
    private static final int MOST_SEEN = 6;
    private static final int HIGHEST_SEEN = 9999;
    private static final int HIGHEST_TRY = 99;

    private final Code code = new Code();
    private final Past past = new Past();
    private final Album album = new Album();
    private final Search search = new Search();
    private final Chances chances = new Chances();

    public CodedWords() {
    }

    // ---- what is done

    public int codes(int a, int width) {
        if (!isConstant(a) || !isWidth(width)) {
            return BAD;
        }
        past.remember(code);
        code.startAs(a, width);
        return code.reach();
    }

    public int sets(int r, int value) {
        if (!isRegister(r) || !code.reaches(value)) {
            return BAD;
        }
        past.remember(code);
        code.put(r, code.a * value, rest(value, RESIDUES_BY));
        return code.wordOf(r);
    }

    public int does(int op, int r, int s) {
        if (op < ADD || op > HALF || !isRegister(r)) {
            return BAD;
        }
        // The later three pass s over, so only the first three ask that it be a REGISTER.
        if (op <= TIMES && !isRegister(s)) {
            return BAD;
        }
        if (op == HALF && !code.canHalve(r)) {
            return STATE;
        }
        long word = wordDone(op, code.wordOf(r), code.wordOf(s));
        if (word < -code.top() || word > code.top()) {
            return OVER;
        }
        int residue = residueDone(op, code.residueOf(r), code.residueOf(s));
        past.remember(code);
        code.put(r, (int) word, rest(residue, RESIDUES_BY));
        return code.wordOf(r);
    }

    public int strikes(int r, int strike) {
        if (!isRegister(r) || strike < 0 || strike >= code.strikeCount()) {
            return BAD;
        }
        int word = code.wordOf(r) + change(strike);
        int farthest = 2 * code.top();
        if (word < -farthest || word > farthest) {
            return STATE;
        }
        past.remember(code);
        code.put(r, word, code.residueOf(r));
        return word;
    }

    public int bends(int r, int d) {
        if (!isRegister(r) || d < 1 || d >= RESIDUES_BY) {
            return BAD;
        }
        past.remember(code);
        code.put(r, code.wordOf(r), rest(code.residueOf(r) + d, RESIDUES_BY));
        return code.residueOf(r);
    }

    public int mends(int r) {
        if (!isRegister(r)) {
            return BAD;
        }
        int word = code.wordOf(r);
        switch (code.verdictOf(r)) {
            case KIND_RIGHT:
                return 0;
            case KIND_RESIDUE:
                past.remember(code);
                code.put(r, word, code.dueResidue(word));
                return 1;
            case KIND_STRUCK:
                int strike = code.onlyCauseOf(r);
                past.remember(code);
                code.put(r, word - change(strike), code.residueOf(r));
                return 2 + strike;
            default:
                return LOST;
        }
    }

    public int undo() {
        return past.recall(code) ? past.known : STATE;
    }

    // ---- registers

    public int register(int r, int what) {
        if (!isRegister(r)) {
            return BAD;
        }
        int word = code.wordOf(r);
        switch (what) {
            case 0:
                return word;
            case 1:
                return code.residueOf(r);
            case 2:
                return rest(word, code.a);
            case 3:
                return code.fits(word) ? code.valueOf(word) : NONE;
            case 4:
                return code.isRight(word, code.residueOf(r)) ? 1 : 0;
            case 5:
                return code.verdictOf(r);
            case 6:
                return code.onlyCauseOf(r);
            case 7:
                return code.causesOf(r);
            default:
                return BAD;
        }
    }

    // ---- constants

    public int weight(int v) {
        return v < -HEAVIEST || v > HEAVIEST ? BAD : digitsNotZero(Math.abs(v));
    }

    public int distance(int a, int width) {
        return isConstant(a) && isWidth(width) ? lightestMultiple(a, width, 2) : BAD;
    }

    public int least(int d, int width) {
        if (d < 1 || d > FARTHEST || !isWidth(width)) {
            return BAD;
        }
        int tooLight = Math.max(2, d - 1);
        for (int a = LOWEST_CONSTANT; a <= HIGHEST_CONSTANT; a += 2) {
            // NONE is below every d, so a constant without a multiple is not enough.
            if (lightestMultiple(a, width, tooLight) >= d) {
                return a;
            }
        }
        return NONE;
    }

    public int round(int a) {
        if (!isConstant(a)) {
            return BAD;
        }
        int left = 1;
        for (int n = 1; n <= a; n++) {
            left = rest(2 * left, a);
            if (left == 1 || left == a - 1) {
                return n;
            }
        }
        return NONE;
    }

    public int plain(int a, int width) {
        if (!isConstant(a) || !isWidth(width)) {
            return BAD;
        }
        for (int strike = 0; strike < 2 * width; strike++) {
            int left = rest(change(strike), a);
            if (left == 0 || strikesLeaving(left, a, width) != 1) {
                return 0;
            }
        }
        return 1;
    }

    public int same(int rest, int what) {
        if (rest < 0 || rest >= code.a) {
            return BAD;
        }
        switch (what) {
            case 0:
                return strikesLeaving(rest, code.a, code.width);
            case 1:
                return firstLeaving(rest, code.a, code.width);
            default:
                return BAD;
        }
    }

    public int missed() {
        int twos = 0;
        for (int higher = 2; higher < code.strikeCount(); higher++) {
            // The two of one bit are left out, so the lower one ends below the higher one's bit.
            for (int lower = 0; lower < higher / 2 * 2; lower++) {
                if (code.fits(change(lower) + change(higher))) {
                    twos++;
                }
            }
        }
        return twos;
    }

    public int odds(int t, int what) {
        if (t < 1 || t > MOST_STRIKES || what < 0 || what > 1) {
            return BAD;
        }
        int fitting = chances.waysToFit(t, code.a, code.width);
        int all = 1;
        for (int i = 0; i < t; i++) {
            all *= code.strikeCount();
        }
        return (int) cut(what == 0 ? fitting : all, commonDivisor(fitting, all));
    }

    // ---- which constant

    public int sees(int word, int fits) {
        if (word < 1 || word > HIGHEST_SEEN || fits < 0 || fits > 1) {
            return BAD;
        }
        return search.note(word, fits) ? search.seen : FULL;
    }

    public int forget() {
        int seen = search.seen;
        search.seen = 0;
        return seen;
    }

    public int unseen(int what) {
        switch (what) {
            case 0:
                return search.gatherOpen();
            case 1:
                return search.leastOpen();
            default:
                return BAD;
        }
    }

    public int next() {
        return search.bestTry();
    }

    // ---- images

    public int keep(int image) {
        if (!isImage(image)) {
            return BAD;
        }
        album.store(image, code);
        return code.a;
    }

    public int back(int image) {
        if (!isImage(image)) {
            return BAD;
        }
        if (!album.fetch(image, code)) {
            return STATE;
        }
        past.lose();
        return code.a;
    }

    public int count(int what) {
        switch (what) {
            case 0:
                return code.a;
            case 1:
                return code.width;
            case 2:
                return code.top();
            case 3:
                return code.reach();
            case 4:
                return code.registersRight();
            case 5:
                return search.seen;
            case 6:
                return past.known;
            default:
                return BAD;
        }
    }

    // ---- what numbers are as told

    private static boolean isConstant(int a) {
        return a >= LOWEST_CONSTANT && a <= HIGHEST_CONSTANT && a % 2 == 1;
    }

    private static boolean isWidth(int width) {
        return width >= LOWEST_WIDTH && width <= HIGHEST_WIDTH;
    }

    private static boolean isRegister(int r) {
        return r >= 0 && r < REGISTERS;
    }

    private static boolean isImage(int image) {
        return image >= 0 && image < IMAGES;
    }

    // ---- numbers

    private static int rest(int number, int by) {
        return by < 1 ? 0 : Math.floorMod(number, by);
    }

    /** A number by another, cut towards 0. */
    private static long cut(long number, int by) {
        return by < 1 ? 0 : number / by;
    }

    private static int commonDivisor(int one, int other) {
        int high = one;
        int low = other;
        // Each two steps halve the numbers, so 64 are more than an int can need.
        for (int step = 0; step < 64 && low != 0; step++) {
            int left = rest(high, low);
            high = low;
            low = left;
        }
        return high;
    }

    /**
     * WEIGHT of a number that is not below 0. Bit by bit, 3 v less v gives the signed digits of
     * 2 v, no two side by side both not 0; so the digits are not 0 where 3 v and v differ.
     */
    private static int digitsNotZero(int v) {
        return Integer.bitCount(v ^ (3 * v));
    }

    /**
     * The least WEIGHT of the multiples below 2 to the power of width, NONE if there are none. It is
     * not looked for further once a WEIGHT is tooLight or less; none is below 2, for no power of 2
     * is a multiple of an odd constant.
     */
    private static int lightestMultiple(int a, int width, int tooLight) {
        int end = 1 << width;
        int lightest = NONE;
        // Twice a number weighs as much as the number, so the odd multiples are enough. Where n is
        // above 0, a is too: so the loop ends whatever a is.
        for (int n = a; n > 0 && n < end; n += 2 * a) {
            int weighs = digitsNotZero(n);
            if (lightest == NONE || weighs < lightest) {
                lightest = weighs;
            }
            if (lightest <= tooLight) {
                return lightest;
            }
        }
        return lightest;
    }

    // ---- strikes

    private static int change(int strike) {
        int size = 1 << (strike / 2);
        return strike % 2 == 0 ? size : -size;
    }

    private static int strikesLeaving(int left, int a, int width) {
        int found = 0;
        for (int strike = 0; strike < 2 * width; strike++) {
            if (rest(change(strike), a) == left) {
                found++;
            }
        }
        return found;
    }

    private static int firstLeaving(int left, int a, int width) {
        for (int strike = 0; strike < 2 * width; strike++) {
            if (rest(change(strike), a) == left) {
                return strike;
            }
        }
        return NONE;
    }

    // ---- what DONE makes of words and residues

    private long wordDone(int op, long word, long other) {
        switch (op) {
            case ADD:
                return word + other;
            case SUB:
                return word - other;
            case TIMES:
                return cut(word * other, code.a);
            case TWICE:
                return word + word;
            case TURN:
                return -word;
            default:
                return word / 2;
        }
    }

    private static int residueDone(int op, int residue, int other) {
        switch (op) {
            case ADD:
                return residue + other;
            case SUB:
                return residue - other;
            case TIMES:
                return residue * other;
            case TWICE:
                return residue + residue;
            case TURN:
                return -residue;
            default:
                // 8 is what 2 must be multiplied by to leave 1 by 15: it halves.
                return 8 * residue;
        }
    }

    /** THE CODE with its REGISTERS: all that is undone, and all that an IMAGE keeps. */
    private static final class Code {
        private int a = FIRST_CONSTANT;
        private int width = FIRST_WIDTH;
        private final int[] words = new int[REGISTERS];
        private final int[] residues = new int[REGISTERS];

        void startAs(int newA, int newWidth) {
            a = newA;
            width = newWidth;
            Arrays.fill(words, 0);
            Arrays.fill(residues, 0);
        }

        void copyFrom(Code other) {
            a = other.a;
            width = other.width;
            for (int r = 0; r < REGISTERS; r++) {
                put(r, other.wordOf(r), other.residueOf(r));
            }
        }

        int wordOf(int r) {
            return isRegister(r) ? words[r] : 0;
        }

        int residueOf(int r) {
            return isRegister(r) ? residues[r] : 0;
        }

        void put(int r, int word, int residue) {
            if (isRegister(r)) {
                words[r] = word;
                residues[r] = residue;
            }
        }

        int top() {
            return (1 << width) - 1;
        }

        int reach() {
            return (int) cut(top(), a);
        }

        int strikeCount() {
            return 2 * width;
        }

        boolean reaches(int value) {
            return value >= -reach() && value <= reach();
        }

        boolean fits(int word) {
            return rest(word, a) == 0;
        }

        int valueOf(int word) {
            return (int) cut(word, a);
        }

        int dueResidue(int word) {
            return rest(valueOf(word), RESIDUES_BY);
        }

        /**
         * Whether a WORD is one that a SET could have put, whatever its RESIDUE. A times a VALUE in
         * reach is -TOP to TOP, so of a WORD that FITS it is enough to look at the WORD itself.
         */
        boolean isSound(int word) {
            return fits(word) && word >= -top() && word <= top();
        }

        boolean isRight(int word, int residue) {
            return isSound(word) && dueResidue(word) == residue;
        }

        int registersRight() {
            int right = 0;
            for (int r = 0; r < REGISTERS; r++) {
                if (isRight(wordOf(r), residueOf(r))) {
                    right++;
                }
            }
            return right;
        }

        boolean canHalve(int r) {
            int word = wordOf(r);
            return fits(word) && valueOf(word) % 2 == 0;
        }

        int causesOf(int r) {
            if (isSound(wordOf(r))) {
                return 0;
            }
            int causes = 0;
            for (int strike = 0; strike < strikeCount(); strike++) {
                if (isRight(wordOf(r) - change(strike), residueOf(r))) {
                    causes++;
                }
            }
            return causes;
        }

        /** The STRIKE that mending would take back; NONE, if none or several could have been. */
        int onlyCauseOf(int r) {
            if (causesOf(r) != 1) {
                return NONE;
            }
            for (int strike = 0; strike < strikeCount(); strike++) {
                if (isRight(wordOf(r) - change(strike), residueOf(r))) {
                    return strike;
                }
            }
            return NONE;
        }

        int verdictOf(int r) {
            int word = wordOf(r);
            if (isSound(word)) {
                return isRight(word, residueOf(r)) ? KIND_RIGHT : KIND_RESIDUE;
            }
            return causesOf(r) == 1 ? KIND_STRUCK : KIND_LOST;
        }
    }

    /** What can be UNDONE: a ring of what THE CODE was, so that the oldest gives way to the newest. */
    private static final class Past {
        private final Code[] ring = new Code[STEPS_KNOWN];
        private int oldest = 0;
        private int known = 0;

        Past() {
            for (int i = 0; i < STEPS_KNOWN; i++) {
                ring[i] = new Code();
            }
        }

        void remember(Code now) {
            if (known == STEPS_KNOWN) {
                oldest = rest(oldest + 1, STEPS_KNOWN);
                known--;
            }
            Code free = ring[Math.floorMod(oldest + known, STEPS_KNOWN)];
            if (free != null) {
                free.copyFrom(now);
                known++;
            }
        }

        boolean recall(Code now) {
            if (known == 0) {
                return false;
            }
            Code latest = ring[Math.floorMod(oldest + known - 1, STEPS_KNOWN)];
            if (latest == null) {
                return false;
            }
            now.copyFrom(latest);
            known--;
            return true;
        }

        void lose() {
            known = 0;
        }
    }

    /** The IMAGES; one that was never kept is null. */
    private static final class Album {
        private final Code[] kept = new Code[IMAGES];

        void store(int image, Code now) {
            if (!isImage(image)) {
                return;
            }
            Code picture = kept[image];
            if (picture == null) {
                picture = new Code();
                kept[image] = picture;
            }
            picture.copyFrom(now);
        }

        boolean fetch(int image, Code now) {
            if (!isImage(image)) {
                return false;
            }
            Code picture = kept[image];
            if (picture == null) {
                return false;
            }
            now.copyFrom(picture);
            return true;
        }
    }

    /** In how many ways STRIKES come to each REST, in rows that every call uses again. */
    private static final class Chances {
        private final int[] ways = new int[HIGHEST_CONSTANT];
        private final int[] waysOneMore = new int[HIGHEST_CONSTANT];

        int waysToFit(int strikes, int a, int width) {
            Arrays.fill(ways, 0);
            ways[0] = 1;
            for (int i = 0; i < strikes; i++) {
                addStrike(a, width);
            }
            return ways[0];
        }

        private void addStrike(int a, int width) {
            int rests = Math.min(a, HIGHEST_CONSTANT);
            Arrays.fill(waysOneMore, 0);
            for (int strike = 0; strike < 2 * width; strike++) {
                int from = rest(-change(strike), rests);
                for (int to = 0; to < rests; to++) {
                    if (from >= 0 && from < rests) {
                        waysOneMore[to] += ways[from];
                    }
                    from = from + 1 < rests ? from + 1 : 0;
                }
            }
            for (int left = 0; left < rests; left++) {
                ways[left] = waysOneMore[left];
            }
        }
    }

    /** What was SEEN of an unknown constant, and which constants are still open. */
    private static final class Search {
        private final int[] words = new int[MOST_SEEN];
        private final int[] fits = new int[MOST_SEEN];
        private final int[] open = new int[HIGHEST_CONSTANT / 2];
        private int seen = 0;

        boolean note(int word, int fit) {
            if (seen < 0 || seen >= MOST_SEEN) {
                return false;
            }
            words[seen] = word;
            fits[seen] = fit;
            seen++;
            return true;
        }

        /** Puts the constants that are open in a row, the least first: how many there are. */
        int gatherOpen() {
            int found = 0;
            for (int a = LOWEST_CONSTANT; a <= HIGHEST_CONSTANT; a += 2) {
                if (isOpen(a) && found < open.length) {
                    open[found] = a;
                    found++;
                }
            }
            return found;
        }

        int leastOpen() {
            return gatherOpen() == 0 ? NONE : open[0];
        }

        int bestTry() {
            int found = gatherOpen();
            if (found <= 1) {
                return NONE;
            }
            int best = NONE;
            int bestPart = found + 1;
            for (int word = 1; word <= HIGHEST_TRY; word++) {
                int fitting = openFitting(word, found);
                int greaterPart = Math.max(fitting, found - fitting);
                if (greaterPart < bestPart) {
                    bestPart = greaterPart;
                    best = word;
                }
            }
            return best;
        }

        private boolean isOpen(int a) {
            for (int i = 0; i < seen && i < MOST_SEEN; i++) {
                int fit = rest(words[i], a) == 0 ? 1 : 0;
                if (fit != fits[i]) {
                    return false;
                }
            }
            return true;
        }

        private int openFitting(int word, int found) {
            int fitting = 0;
            for (int i = 0; i < found && i < open.length; i++) {
                if (rest(word, open[i]) == 0) {
                    fitting++;
                }
            }
            return fitting;
        }
    }
}
