import java.lang.reflect.InvocationTargetException;
import java.lang.reflect.Method;
import java.lang.reflect.Modifier;
import java.util.Arrays;
import java.util.HashMap;
import java.util.Map;
import java.util.Random;

/** The class and the slow model answer alike: over all codes, and over many runs of calls drawn with fixed seeds. */
public final class ModelTest {
    private static final Check CHECK = new Check();
    private static final int RUNS = 1500;
    /** With the 32 that ask for all registers at the end, the 512 that an object is used for. */
    private static final int CALLS = 480;
    private static final int[] WILD = {Integer.MIN_VALUE, Integer.MIN_VALUE + 1, -1000000, -100000, -1, 0, 1, 2, 3, 4, 5, 6, 7, 8, 9, 13, 14, 15, 16, 17, 31,
        32, 33, 63, 64, 199, 200, 201, 9999, 10000, 65535, 65536, 99999, 100000, Integer.MAX_VALUE - 1, Integer.MAX_VALUE};

    /** How often each call is drawn; those that wipe much out, or that the model is slow in, come seldom. */
    private static final String[] DRAWN = {
        "codes 2", "sets 24", "does 30", "strikes 20", "bends 8", "mends 20", "undo 10", "register 30", "keep 4", "back 2",
        "count 10", "sees 6", "forget 1", "unseen 6", "next 1", "same 4", "missed 1", "odds 1", "weight 2", "distance 1",
        "least 1", "round 1", "plain 1"
    };

    private static final Map<String, Method> OF_CLASS = methodsOf(CodedWords.class);
    private static final Map<String, Method> OF_MODEL = methodsOf(SlowModel.class);
    private static final String[] LOTS = lots();

    private final CodedWords words = new CodedWords();
    private final SlowModel model = new SlowModel();
    private final Random random;
    private final boolean wild;
    private final String run;

    private ModelTest(int seed) {
        random = new Random(seed);
        wild = seed % 5 == 0;
        run = "seed " + seed;
    }

    public static void main(String[] args) throws ReflectiveOperationException {
        allWeights();
        allConstants();
        allCodes();
        allWild();
        for (int seed = 1; seed <= RUNS; seed++) {
            new ModelTest(seed).runs();
        }
        CHECK.end();
    }

    private static Map<String, Method> methodsOf(Class<?> type) {
        Map<String, Method> methods = new HashMap<>();
        for (Method method : type.getDeclaredMethods()) {
            methods.put(method.getName(), method);
        }
        return methods;
    }

    private static String[] lots() {
        StringBuilder all = new StringBuilder();
        for (String drawn : DRAWN) {
            String[] parts = drawn.split(" ");
            all.append((parts[0] + " ").repeat(Integer.parseInt(parts[1])));
        }
        return all.toString().split(" ");
    }

    private static void allWeights() {
        SlowModel model = new SlowModel();
        CodedWords words = new CodedWords();
        for (int v = -100002; v <= 100002; v++) {
            words = v % 500 == 0 ? new CodedWords() : words;
            CHECK.due("weight(" + v + ")", words.weight(v), model.weight(v));
        }
    }

    private static void allConstants() {
        SlowModel model = new SlowModel();
        for (int a = -1; a <= 203; a++) {
            CodedWords words = new CodedWords();
            CHECK.due("round(" + a + ")", words.round(a), model.round(a));
            for (int width = 2; width <= 18; width++) {
                CHECK.due("plain(" + a + ", " + width + ")", words.plain(a, width), model.plain(a, width));
                CHECK.due("distance(" + a + ", " + width + ")", words.distance(a, width), model.distance(a, width));
            }
        }
        CodedWords words = new CodedWords();
        for (int d = -1; d <= 7; d++) {
            for (int width = 2; width <= 18; width++) {
                CHECK.due("least(" + d + ", " + width + ")", words.least(d, width), model.least(d, width));
            }
        }
    }

    private static void allCodes() {
        for (int a = 3; a <= 199; a += 2) {
            for (int width = 4; width <= 16; width++) {
                oneCode(a, width);
            }
        }
    }

    private static void oneCode(int a, int width) {
        String at = "behind codes(" + a + ", " + width + "): ";
        CodedWords words = new CodedWords();
        SlowModel model = new SlowModel();
        CHECK.due(at, words.codes(a, width), model.codes(a, width));
        CHECK.due(at + "missed()", words.missed(), model.missed());
        for (int rest = -1; rest <= a; rest++) {
            CHECK.due(at + "same(" + rest + ", 0)", words.same(rest, 0), model.same(rest, 0));
            CHECK.due(at + "same(" + rest + ", 1)", words.same(rest, 1), model.same(rest, 1));
        }
        // Four strikes one by one are too many rows for every code.
        int most = width <= 6 || a % 40 == 3 ? 4 : 2;
        for (int t = 1; t <= most; t++) {
            CHECK.due(at + "odds(" + t + ", 0)", words.odds(t, 0), model.odds(t, 0));
            CHECK.due(at + "odds(" + t + ", 1)", words.odds(t, 1), model.odds(t, 1));
        }
    }

    /** Every call with every row of numbers that are edges somewhere, or far out. */
    private static void allWild() throws ReflectiveOperationException {
        for (String name : OF_CLASS.keySet()) {
            Method method = OF_CLASS.get(name);
            if (!Modifier.isPublic(method.getModifiers())) {
                continue;
            }
            int many = method.getParameterCount();
            int rows = (int) Math.pow(WILD.length, many);
            ModelTest test = null;
            for (int row = 0; row < rows; row++) {
                if (row % 400 == 0) {
                    test = new ModelTest(-row / 400);
                    test.startWild(row / 400);
                }
                int[] numbers = new int[many];
                for (int i = 0, left = row; i < many; i++, left /= WILD.length) {
                    numbers[i] = WILD[left % WILD.length];
                }
                test.compare(row, name, numbers);
            }
        }
    }

    private void startWild(int which) throws ReflectiveOperationException {
        int[][] codes = {{13, 9}, {3, 4}, {199, 16}, {15, 4}, {7, 16}};
        int[] code = codes[which % codes.length];
        compare(0, "codes", code);
        compare(0, "sets", 0, model.count(3));
        compare(0, "sets", 1, -model.count(3));
        for (int i = 0; i < 3; i++) {
            compare(0, "strikes", 0, 2 * code[1] - 2);
            compare(0, "strikes", 1, 2 * code[1] - 1);
        }
        compare(0, "strikes", 2, 0);
        compare(0, "bends", 3, 14);
        compare(0, "keep", which % 2);
        compare(0, "sees", 315, 1);
    }

    private void runs() throws ReflectiveOperationException {
        for (int call = 1; call <= CALLS; call++) {
            String name = LOTS[random.nextInt(LOTS.length)];
            compare(call, name, numbersFor(name));
        }
        for (int r = 0; r < 4; r++) {
            for (int what = 0; what < 8; what++) {
                compare(CALLS, "register", r, what);
            }
        }
    }

    private void compare(int call, String name, int... with) throws ReflectiveOperationException {
        Object[] numbers = Arrays.stream(with).boxed().toArray();
        int want = (Integer) OF_MODEL.get(name).invoke(model, numbers);
        int got;
        try {
            got = (Integer) OF_CLASS.get(name).invoke(words, numbers);
        } catch (InvocationTargetException thrown) {
            CHECK.holds(run + ", call " + call + ": " + name + Arrays.toString(with) + " throws nothing, not " + thrown.getCause(), false);
            return;
        }
        CHECK.due(run + ", call " + call + ": " + name + Arrays.toString(with), got, want);
    }

    private int[] numbersFor(String name) {
        switch (name) {
            case "codes": case "distance": case "plain":
                return row(anyConstant(), number(4, 16));
            case "sets":
                return row(number(0, 3), anyValue());
            case "does":
                return row(number(0, 5), number(0, 3), number(0, 3));
            case "strikes":
                return row(number(0, 3), anyStrike());
            case "bends":
                return row(number(0, 3), number(1, 14));
            case "mends":
                return row(number(0, 3));
            case "register":
                return row(number(0, 3), number(0, 7));
            case "keep": case "back": case "unseen":
                return row(number(0, 1));
            case "count":
                return row(number(0, 6));
            case "sees":
                return row(anySeen(), number(0, 1));
            case "same":
                return row(number(0, model.count(0) - 1), number(0, 1));
            case "odds":
                return row(number(1, 2), number(0, 1));
            case "weight":
                return row(number(-99999, 99999));
            case "least":
                return row(number(1, 5), number(4, 9));
            case "round":
                return row(anyConstant());
            default:
                return row();
        }
    }

    private static int[] row(int... numbers) {
        return numbers;
    }

    /** A number between these two, at times just beyond, in wild runs at times any. */
    private int number(int low, int high) {
        if (wild && random.nextInt(8) == 0) {
            return random.nextBoolean() ? WILD[random.nextInt(WILD.length)] : random.nextInt();
        }
        if (random.nextInt(40) == 0) {
            return random.nextBoolean() ? low - 1 : high + 1;
        }
        return low + random.nextInt(high - low + 1);
    }

    private int anyConstant() {
        return random.nextInt(30) == 0 ? number(2, 200) : number(1, 99) * 2 + 1;
    }

    private int anyValue() {
        int reach = model.count(3);
        int near = random.nextInt(4) == 0 ? reach : Math.min(reach, 12);
        return number(-near, near);
    }

    /** The highest bit comes often, so that words go out of reach. */
    private int anyStrike() {
        int last = 2 * model.count(1) - 1;
        return random.nextInt(3) == 0 ? last - random.nextInt(2) : number(0, last);
    }

    /** Words with many divisors come often, so that several constants stay open. */
    private int anySeen() {
        return random.nextInt(3) == 0 ? number(1, 9999) : 3 * 5 * 7 * number(1, 95);
    }
}
