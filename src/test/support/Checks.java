/** What the tests of the promises share: a count of wrong answers, and questions for the whole state. */
abstract class Checks {
    static final int MIN = Integer.MIN_VALUE;
    static final int MAX = Integer.MAX_VALUE;

    // Beside the numbers next to the good ones and the outermost: some that a mask or a cast makes good.
    static final int[] BAD_BLOCKS = {MIN, MIN + 1, -17, -16, -1, 16, 17, 31, 32, 256, 65536, MAX - 1, MAX};
    static final int[] BAD_SNAPSHOTS = {MIN, MIN + 1, -2, -1, 2, 3, 16, 256, 65536, MAX - 1, MAX};
    static final int[] BAD_COUNTS = {MIN, MIN + 1, -16, -1, 0, 17, 18, 32, 257, 65537, MAX - 1, MAX};
    static final int[] SEEDS = {MIN, MIN + 1, -12345, -1, 0, 1, 7, 16, 12345, MAX - 1, MAX};

    // What used() leaves in the blocks and in the two snapshots: no two of the 48 values are equal.
    static final int[] USED = series(100, 1);
    static final int[] USED_FIRST = series(-50, 3);
    static final int[] USED_SECOND = series(1000, -7);

    interface Call {
        int on(PathOram x);
    }

    interface PairCall {
        int on(PathOram x, int one, int other);
    }

    // One broken sentence can make thousands of answers wrong: the first ones tell enough.
    private static final int SHOWN_PER_SENTENCE = 20;

    private static String current = "";
    private static int shown = 0;
    private static int wrong = 0;

    /** Names what the answers that follow belong to. */
    static void sentence(String words) {
        current = words;
        shown = 0;
    }

    static void due(String call, int got, int want) {
        if (got != want) {
            wrong++;
            show("[" + current + "] " + call + " answered " + got + ", due is " + want);
        }
    }

    private static void show(String line) {
        if (shown < SHOWN_PER_SENTENCE) {
            System.out.println(line);
        }
        shown++;
    }

    static void end() {
        System.out.println(wrong == 0 ? "all answers are as due" : wrong + " answers are not as due");
        if (wrong != 0) {
            System.exit(1);
        }
    }

    static int[] series(int value, int step) {
        int[] values = new int[16];
        for (int b = 0; b < 16; b++) {
            values[b] = (int) (value + (long) b * step);
        }
        return values;
    }

    static int[] with(int[] values, int b, int value) {
        int[] changed = values.clone();
        changed[b] = value;
        return changed;
    }

    static int unlike(int[] one, int[] other) {
        int count = 0;
        for (int b = 0; b < 16; b++) {
            count += one[b] == other[b] ? 0 : 1;
        }
        return count;
    }

    static PathOram holding(int... values) {
        PathOram x = new PathOram(-3);
        for (int b = 0; b < 16; b++) {
            due("write(" + b + ", " + values[b] + ")", x.write(b, values[b]), 0);
        }
        return x;
    }

    static PathOram used() {
        PathOram x = new PathOram(5);
        due("fill(0, 16, -50, 3)", x.fill(0, 16, -50, 3), 0);
        due("save(0)", x.save(0), 0);
        due("fill(0, 16, 1000, -7)", x.fill(0, 16, 1000, -7), 0);
        due("save(1)", x.save(1), 0);
        due("fill(0, 16, 100, 1)", x.fill(0, 16, 100, 1), 0);
        return x;
    }

    static void dueBlocks(String when, PathOram x, int... want) {
        for (int b = 0; b < 16; b++) {
            due(when + ": read(" + b + ")", x.read(b), want[b]);
        }
        due(when + ": audit()", x.audit(), 0);
    }

    /** Asks for all that later answers can show, and uses up the blocks: 56 calls. */
    static void dueState(String when, PathOram x, int touched, int[] blocks, int[] first, int[] second) {
        due(when + ": touched()", x.touched(), touched);
        due(when + ": audit()", x.audit(), 0);
        due(when + ": touched() after audit()", x.touched(), touched);
        dueBlocks(when, x, blocks);
        due(when + ": load(0)", x.load(0), unlike(blocks, first));
        dueBlocks(when + ", snapshot 0", x, first);
        due(when + ": load(1)", x.load(1), unlike(first, second));
        dueBlocks(when + ", snapshot 1", x, second);
    }

    static void dueNewState(String when, PathOram x, int touched) {
        dueState("new, " + when, x, touched, new int[16], new int[16], new int[16]);
    }

    static void dueUsedState(String when, PathOram x) {
        dueState("used, " + when, x, 4, USED, USED_FIRST, USED_SECOND);
    }

    /** The call answers as a refused one and leaves both a new and a used object as they were. */
    static void dueRefused(String name, Call call, int answer) {
        PathOram x = new PathOram(11);
        due("new: " + name, call.on(x), answer);
        dueNewState("after " + name, x, 0);
        PathOram y = used();
        due("used: " + name, call.on(y), answer);
        due("used: " + name + " again", call.on(y), answer);
        dueUsedState("after " + name, y);
    }

    /** The call accesses the store of a new and of a used object. */
    static void dueAccess(String name, Call call) {
        PathOram x = new PathOram(11);
        due("new, before " + name + ": touched()", x.touched(), 0);
        call.on(x);
        due("new, after " + name + ": touched()", x.touched(), 4);
        call.on(x);
        due("after two of " + name + ": touched()", x.touched(), 4);
        due("asked again after " + name + ": touched()", x.touched(), 4);
        PathOram y = used();
        call.on(y);
        due("used, after " + name + ": touched()", y.touched(), 4);
    }
}
