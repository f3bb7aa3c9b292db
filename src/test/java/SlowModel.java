import java.math.BigInteger;
import java.util.ArrayDeque;
import java.util.ArrayList;
import java.util.Arrays;
import java.util.Deque;
import java.util.List;

/**
 * The document said once more, in the slowest and plainest way, for the tests to compare with: big
 * numbers, lists of whole states, every pair and every row of strikes tried one by one.
 */
final class SlowModel {
    static final int BAD = -1000001, STATE = -1000002, FULL = -1000003, OVER = -1000004, LOST = -1000005, NONE = -1000000;

    /** a, width, then a word and a residue for each register. */
    private int[] state = {13, 9, 0, 0, 0, 0, 0, 0, 0, 0};
    private final Deque<int[]> past = new ArrayDeque<>();
    private final int[][] images = new int[2][];
    private final List<int[]> seen = new ArrayList<>();

    private int a() {
        return state[0];
    }

    private int width() {
        return state[1];
    }

    private int word(int r) {
        return state[2 + 2 * r];
    }

    private int residue(int r) {
        return state[3 + 2 * r];
    }

    private int top() {
        return BigInteger.TWO.pow(width()).intValueExact() - 1;
    }

    static int rest(long n, long m) {
        return (int) ((n % m + m) % m);
    }

    static int change(int strike) {
        int size = BigInteger.TWO.pow(strike / 2).intValueExact();
        return strike % 2 == 0 ? size : -size;
    }

    private static boolean within(int n, int low, int high) {
        return low <= n && n <= high;
    }

    private static boolean constant(int a) {
        return within(a, 3, 199) && a % 2 != 0;
    }

    private int reach() {
        return (top() - rest(top(), a())) / a();
    }

    private boolean inReach(int word) {
        return rest(word, a()) == 0 && within(word, -top(), top());
    }

    private boolean right(int word, int residue) {
        return inReach(word) && rest(word / a(), 15) == residue;
    }

    private void become(int[] then) {
        past.addLast(state);
        while (past.size() > 12) {
            past.removeFirst();
        }
        state = then;
    }

    private void becomeWith(int r, int word, int residue) {
        int[] then = state.clone();
        then[2 + 2 * r] = word;
        then[3 + 2 * r] = rest(residue, 15);
        become(then);
    }

    int codes(int a, int width) {
        if (!constant(a) || !within(width, 4, 16)) {
            return BAD;
        }
        become(new int[] {a, width, 0, 0, 0, 0, 0, 0, 0, 0});
        return reach();
    }

    int sets(int r, int value) {
        if (!within(r, 0, 3) || !within(value, -reach(), reach())) {
            return BAD;
        }
        becomeWith(r, a() * value, value);
        return word(r);
    }

    int does(int op, int r, int s) {
        if (!within(op, 0, 5) || !within(r, 0, 3) || (op < 3 && !within(s, 0, 3))) {
            return BAD;
        }
        int other = op < 3 ? s : r;
        BigInteger one = BigInteger.valueOf(word(r));
        BigInteger two = BigInteger.valueOf(word(other));
        BigInteger by = BigInteger.valueOf(a());
        if (op == 5 && (one.mod(by).signum() != 0 || one.divide(by).testBit(0))) {
            return STATE;
        }
        BigInteger[] words = {one.add(two), one.subtract(two), one.multiply(two).divide(by), one.add(one), one.negate(),
            one.divide(BigInteger.TWO)};
        int p = residue(r);
        int q = residue(other);
        int[] residues = {p + q, p - q, p * q, p + p, -p, 8 * p};
        if (words[op].abs().compareTo(BigInteger.valueOf(top())) > 0) {
            return OVER;
        }
        becomeWith(r, words[op].intValueExact(), residues[op]);
        return word(r);
    }

    int strikes(int r, int strike) {
        if (!within(r, 0, 3) || !within(strike, 0, 2 * width() - 1)) {
            return BAD;
        }
        int word = word(r) + change(strike);
        if (!within(word, -2 * top(), 2 * top())) {
            return STATE;
        }
        becomeWith(r, word, residue(r));
        return word;
    }

    int bends(int r, int d) {
        if (!within(r, 0, 3) || !within(d, 1, 14)) {
            return BAD;
        }
        becomeWith(r, word(r), residue(r) + d);
        return residue(r);
    }

    private List<Integer> causes(int r) {
        List<Integer> causes = new ArrayList<>();
        for (int strike = 0; strike < 2 * width(); strike++) {
            if (!inReach(word(r)) && right(word(r) - change(strike), residue(r))) {
                causes.add(strike);
            }
        }
        return causes;
    }

    int mends(int r) {
        if (!within(r, 0, 3)) {
            return BAD;
        }
        if (right(word(r), residue(r))) {
            return 0;
        }
        if (inReach(word(r))) {
            becomeWith(r, word(r), word(r) / a());
            return 1;
        }
        List<Integer> causes = causes(r);
        if (causes.size() != 1) {
            return LOST;
        }
        becomeWith(r, word(r) - change(causes.get(0)), residue(r));
        return 2 + causes.get(0);
    }

    int undo() {
        if (past.isEmpty()) {
            return STATE;
        }
        state = past.removeLast();
        return past.size();
    }

    int register(int r, int what) {
        if (!within(r, 0, 3) || !within(what, 0, 7)) {
            return BAD;
        }
        List<Integer> causes = causes(r);
        boolean right = right(word(r), residue(r));
        int kind = right ? 0 : inReach(word(r)) ? 1 : causes.size() == 1 ? 2 : 3;
        int[] answers = {word(r), residue(r), rest(word(r), a()), rest(word(r), a()) == 0 ? word(r) / a() : NONE, right ? 1 : 0,
            kind, kind == 2 ? causes.get(0) : NONE, causes.size()};
        return answers[what];
    }

    int weight(int v) {
        if (!within(v, -99999, 99999)) {
            return BAD;
        }
        int weight = 0;
        for (int left = v; left != 0; left /= 2) {
            if (left % 2 != 0) {
                // The digit that leaves a multiple of 4, so that a 0 comes next.
                int digit = rest(left, 4) == 1 ? 1 : -1;
                left -= digit;
                weight++;
            }
        }
        return weight;
    }

    int distance(int a, int width) {
        if (!constant(a) || !within(width, 4, 16)) {
            return BAD;
        }
        int best = NONE;
        for (int n = a; n < BigInteger.TWO.pow(width).intValueExact(); n += a) {
            best = best == NONE ? weight(n) : Math.min(best, weight(n));
        }
        return best;
    }

    int least(int d, int width) {
        if (!within(d, 1, 5) || !within(width, 4, 16)) {
            return BAD;
        }
        for (int a = 3; a <= 199; a += 2) {
            int distance = distance(a, width);
            if (distance != NONE && distance >= d) {
                return a;
            }
        }
        return NONE;
    }

    int round(int a) {
        if (!constant(a)) {
            return BAD;
        }
        int n = 1;
        while (true) {
            int left = BigInteger.TWO.pow(n).mod(BigInteger.valueOf(a)).intValueExact();
            if (left == 1 || left == a - 1) {
                return n;
            }
            n++;
        }
    }

    int plain(int a, int width) {
        if (!constant(a) || !within(width, 4, 16)) {
            return BAD;
        }
        for (int i = 0; i < 2 * width; i++) {
            if (rest(change(i), a) == 0) {
                return 0;
            }
            for (int j = 0; j < i; j++) {
                if (rest(change(i), a) == rest(change(j), a)) {
                    return 0;
                }
            }
        }
        return 1;
    }

    int same(int rest, int what) {
        if (!within(rest, 0, a() - 1) || !within(what, 0, 1)) {
            return BAD;
        }
        int first = NONE;
        int many = 0;
        for (int strike = 2 * width() - 1; strike >= 0; strike--) {
            if (rest(change(strike), a()) == rest) {
                first = strike;
                many++;
            }
        }
        return what == 0 ? many : first;
    }

    int missed() {
        int missed = 0;
        for (int i = 0; i < 2 * width(); i++) {
            for (int j = i + 1; j < 2 * width(); j++) {
                if (i / 2 != j / 2 && rest(change(i) + change(j), a()) == 0) {
                    missed++;
                }
            }
        }
        return missed;
    }

    int odds(int t, int what) {
        if (!within(t, 1, 4) || !within(what, 0, 1)) {
            return BAD;
        }
        int[] changes = new int[2 * width()];
        for (int i = 0; i < changes.length; i++) {
            changes[i] = change(i);
        }
        BigInteger upper = BigInteger.valueOf(rowsThatFit(changes, t, 0));
        BigInteger lower = BigInteger.valueOf(changes.length).pow(t);
        BigInteger common = upper.gcd(lower);
        return (what == 0 ? upper : lower).divide(common).intValueExact();
    }

    private long rowsThatFit(int[] changes, int t, int sum) {
        if (t == 0) {
            return sum % a() == 0 ? 1 : 0;
        }
        long rows = 0;
        for (int change : changes) {
            rows += rowsThatFit(changes, t - 1, sum + change);
        }
        return rows;
    }

    int sees(int word, int fits) {
        if (!within(word, 1, 9999) || !within(fits, 0, 1)) {
            return BAD;
        }
        if (seen.size() == 6) {
            return FULL;
        }
        seen.add(new int[] {word, fits});
        return seen.size();
    }

    int forget() {
        int many = seen.size();
        seen.clear();
        return many;
    }

    private List<Integer> open() {
        List<Integer> open = new ArrayList<>();
        for (int a = 3; a <= 199; a += 2) {
            int constant = a;
            if (seen.stream().allMatch(one -> (one[0] % constant == 0) == (one[1] == 1))) {
                open.add(a);
            }
        }
        return open;
    }

    int unseen(int what) {
        if (!within(what, 0, 1)) {
            return BAD;
        }
        List<Integer> open = open();
        return what == 0 ? open.size() : open.isEmpty() ? NONE : open.get(0);
    }

    int next() {
        List<Integer> open = open();
        if (open.size() < 2) {
            return NONE;
        }
        int[] parts = new int[100];
        Arrays.fill(parts, Integer.MAX_VALUE);
        int best = 1;
        for (int word = 99; word >= 1; word--) {
            int tried = word;
            int fit = (int) open.stream().filter(a -> tried % a == 0).count();
            parts[word] = Math.max(fit, open.size() - fit);
            best = parts[word] <= parts[best] ? word : best;
        }
        return best;
    }

    int keep(int image) {
        if (!within(image, 0, 1)) {
            return BAD;
        }
        images[image] = state.clone();
        return a();
    }

    int back(int image) {
        if (!within(image, 0, 1)) {
            return BAD;
        }
        if (images[image] == null) {
            return STATE;
        }
        state = images[image].clone();
        past.clear();
        return a();
    }

    int count(int what) {
        if (!within(what, 0, 6)) {
            return BAD;
        }
        int right = 0;
        for (int r = 0; r < 4; r++) {
            right += right(word(r), residue(r)) ? 1 : 0;
        }
        return new int[] {a(), width(), top(), reach(), right, seen.size(), past.size()}[what];
    }
}
