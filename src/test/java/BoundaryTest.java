/** The boundary cases of the document's promises: a test for each sentence that names one. */
public final class BoundaryTest extends Checks {
    private static final int[] MIXED = {4, 7, 4, MIN, 9, 9, 9, 0, -1, 4, 1, 2, 3, MAX, 9, 7};

    public static void main(String[] args) {
        seedOfANewObjectIsAnyInt();
        seedOfStirIsAnyInt();
        stirOnAnObjectThatNoCallHasAccessed();
        readOfTheOutermostBlocks();
        readOfABadBlock();
        writeOfTheOutermostBlocksAndValues();
        writeToABadBlock();
        addWraps();
        addAnswersTheNewValue();
        addToABadBlock();
        exchangeOfEveryTwoBlocks();
        exchangeWithABadBlock();
        copyBetweenEveryTwoBlocks();
        copyWithABadBlock();
        fillOfEveryGoodRange();
        fillWraps();
        fillWithABadCount();
        fillWithABadStart();
        fillTestsTheCountFirst();
        rotateByEveryRemainder();
        rotateByTheOutermostShifts();
        sumWraps();
        findIncludesFrom();
        findFromABadBlock();
        findOfNone();
        findTestsFromFirst();
        belowIsLessNotEqual();
        rankedFromLeastToGreatest();
        rankedCountsEqualValues();
        rankedOfABadRank();
        saveTakesEveryBlock();
        saveToABadSnapshot();
        loadOfAnUnsavedSnapshot();
        loadCountsTheBlocksThatChange();
        loadOfABadSnapshot();
        differingFromNoneToAll();
        differingFromABadSnapshot();
        auditIsAlwaysZero();
        touchedIsZeroAsLongAsThereWasNoAccess();
        touchedIsFourAfterEveryAccess();
        touchedIsAsBeforeAfterEveryRefusal();
        badReadAddAndRankedAccessNothing();
        end();
    }

    /** Calls of every kind, 208 with a stir before each; all the answers in one line. */
    private static String answers(PathOram x, Runnable beforeEach) {
        StringBuilder line = new StringBuilder();
        Call[] calls = {
            o -> o.touched(), o -> o.audit(), o -> o.read(15), o -> o.fill(0, 16, MAX - 7, 3), o -> o.sum(),
            o -> o.save(0), o -> o.rotate(-5), o -> o.add(0, MAX), o -> o.exchange(0, 15), o -> o.copy(3, 4),
            o -> o.below(0), o -> o.ranked(7), o -> o.find(MAX - 4, 0), o -> o.write(9, -9), o -> o.differing(0),
            o -> o.save(1), o -> o.load(0), o -> o.differing(1), o -> o.read(16), o -> o.fill(9, 8, 1, 1),
            o -> o.load(1), o -> o.read(0), o -> o.read(15), o -> o.audit(), o -> o.touched(), o -> o.rotate(MIN + 3)
        };
        for (int round = 0; round < 4; round++) {
            for (Call call : calls) {
                beforeEach.run();
                line.append(call.on(x)).append(' ');
            }
        }
        return line.toString();
    }

    private static void dueSame(String when, String got, String want) {
        due(when + ": the answers differ, which", got.equals(want) ? 0 : 1, 0);
    }

    private static void seedOfANewObjectIsAnyInt() {
        sentence("Promise 1: seed (any int) starts the inner shuffling; no answer of any call depends on it");
        for (int bit = 0; bit < 32; bit++) {
            dueAnySeed(1 << bit);
            dueAnySeed(~(1 << bit));
        }
        for (int seed : SEEDS) {
            dueAnySeed(seed);
        }
    }

    private static void dueAnySeed(int seed) {
        String want = answers(new PathOram(0), () -> { });
        dueSame("seed " + seed, answers(new PathOram(seed), () -> { }), want);
        dueNewState("seed " + seed, new PathOram(seed), 0);
    }

    private static void seedOfStirIsAnyInt() {
        sentence("Promise 2: anew with this seed (any int); no answer of any later call depends on it");
        String want = answers(new PathOram(0), () -> { });
        for (int seed : SEEDS) {
            // The same seed before every call gives every block the same few leaves: the store is fullest then.
            PathOram same = new PathOram(seed);
            dueSame("stir(" + seed + ") before each call", answers(same, () -> same.stir(seed)), want);
            PathOram other = new PathOram(3);
            int[] next = {seed};
            dueSame("stir(" + seed + "), the next time one more",
                answers(other, () -> other.stir(next[0]++)), want);
            PathOram x = used();
            x.stir(seed);
            dueUsedState("after stir(" + seed + ")", x);
        }
    }

    private static void stirOnAnObjectThatNoCallHasAccessed() {
        sentence("Promise 2: stir, on an object that no call has accessed yet");
        for (int seed : SEEDS) {
            PathOram x = new PathOram(seed);
            x.stir(seed);
            x.stir(~seed);
            dueNewState("after stir(" + seed + ")", x, 0);
        }
    }

    private static void readOfTheOutermostBlocks() {
        sentence("Promise 3: What block b holds");
        PathOram x = used();
        due("read(0)", x.read(0), 100);
        due("read(15)", x.read(15), 115);
        due("read(0) again", x.read(0), 100);
        dueUsedState("after reads", x);
        for (int b = 0; b < 16; b++) {
            due("new: read(" + b + ")", new PathOram(b).read(b), 0);
        }
    }

    private static void readOfABadBlock() {
        sentence("Promise 3: 0 if b is not good");
        for (int b : BAD_BLOCKS) {
            dueRefused("read(" + b + ")", x -> x.read(b), 0);
        }
    }

    private static void writeOfTheOutermostBlocksAndValues() {
        sentence("Promise 4: Block b gets the value .. otherwise 0");
        for (int value : new int[] {MIN, MIN + 1, -2, -1, 0, 1, MAX - 1, MAX}) {
            for (int b : new int[] {0, 1, 14, 15}) {
                PathOram x = used();
                due("write(" + b + ", " + value + ")", x.write(b, value), 0);
                dueState("write(" + b + ", " + value + ")", x, 4, with(USED, b, value), USED_FIRST, USED_SECOND);
            }
        }
    }

    private static void writeToABadBlock() {
        sentence("Promise 4: -1 if b is not good");
        for (int b : BAD_BLOCKS) {
            dueRefused("write(" + b + ", 4)", x -> x.write(b, 4), -1);
        }
    }

    private static void addWraps() {
        sentence("Promise 5: what it holds plus delta (wrapping like an int)");
        int[][] rows = {
            // held, delta, the new value
            {MAX, 1, MIN}, {MIN, -1, MAX}, {MAX, MAX, -2}, {MIN, MIN, 0}, {-1, MIN, MAX}, {1, MAX, MIN},
            {MAX, MIN, -1}, {MIN, MAX, -1}, {MAX, -1, MAX - 1}, {MIN, 1, MIN + 1}, {MAX, 0, MAX}, {MIN, 0, MIN},
        };
        for (int[] row : rows) {
            for (int b : new int[] {0, 15}) {
                PathOram x = used();
                String call = "holding " + row[0] + ": add(" + b + ", " + row[1] + ")";
                x.write(b, row[0]);
                due(call, x.add(b, row[1]), row[2]);
                dueState(call, x, 4, with(USED, b, row[2]), USED_FIRST, USED_SECOND);
            }
        }
    }

    private static void addAnswersTheNewValue() {
        sentence("Promise 5: Answers the new value");
        PathOram x = new PathOram(8);
        due("new: add(15, -1)", x.add(15, -1), -1);
        due("add(15, 1)", x.add(15, 1), 0);
        due("add(0, 0)", x.add(0, 0), 0);
        due("add(0, 7)", x.add(0, 7), 7);
        dueState("adds", x, 4, with(new int[16], 0, 7), new int[16], new int[16]);
    }

    private static void addToABadBlock() {
        sentence("Promise 5: 0 if b is not good");
        for (int b : BAD_BLOCKS) {
            dueRefused("add(" + b + ", 4)", x -> x.add(b, 4), 0);
        }
    }

    private static void exchangeOfEveryTwoBlocks() {
        sentence("Promise 6: The blocks b and c change what they hold .. otherwise 0");
        for (int b = 0; b < 16; b++) {
            for (int c = 0; c < 16; c++) {
                PathOram x = used();
                String call = "exchange(" + b + ", " + c + ")";
                due(call, x.exchange(b, c), 0);
                dueState(call, x, 4, with(with(USED, b, USED[c]), c, USED[b]), USED_FIRST, USED_SECOND);
            }
        }
    }

    private static void exchangeWithABadBlock() {
        sentence("Promise 6: -1 if b or c is not good");
        dueBadPairsRefused("exchange", PathOram::exchange);
    }

    private static void dueBadPairsRefused(String name, PairCall call) {
        for (int bad : BAD_BLOCKS) {
            for (int good : new int[] {0, 15}) {
                dueRefused(name + "(" + bad + ", " + good + ")", x -> call.on(x, bad, good), -1);
                dueRefused(name + "(" + good + ", " + bad + ")", x -> call.on(x, good, bad), -1);
            }
            for (int other : BAD_BLOCKS) {
                dueRefused(name + "(" + bad + ", " + other + ")", x -> call.on(x, bad, other), -1);
            }
        }
    }

    private static void copyBetweenEveryTwoBlocks() {
        sentence("Promise 7: Block to gets what block from holds .. otherwise 0");
        for (int from = 0; from < 16; from++) {
            for (int to = 0; to < 16; to++) {
                PathOram x = used();
                String call = "copy(" + from + ", " + to + ")";
                due(call, x.copy(from, to), 0);
                dueState(call, x, 4, with(USED, to, USED[from]), USED_FIRST, USED_SECOND);
            }
        }
    }

    private static void copyWithABadBlock() {
        sentence("Promise 7: -1 if from or to is not good");
        dueBadPairsRefused("copy", PathOram::copy);
    }

    private static void fillOfEveryGoodRange() {
        sentence("Promise 8: The blocks b, b + 1, .., b + count - 1 get value, value + step, .. otherwise 0");
        for (int count = 1; count <= 16; count++) {
            for (int b = 0; b <= 16 - count; b++) {
                PathOram x = used();
                String call = "fill(" + b + ", " + count + ", 7000, -11)";
                due(call, x.fill(b, count, 7000, -11), 0);
                int[] want = USED.clone();
                for (int i = 0; i < count; i++) {
                    want[b + i] = 7000 - 11 * i;
                }
                dueState(call, x, 4, want, USED_FIRST, USED_SECOND);
            }
        }
    }

    private static void fillWraps() {
        sentence("Promise 8: value + step, value + 2 * step, .. (wrapping like ints)");
        int[] edges = {MIN, MIN + 1, -1, 0, 1, 1 << 28, 1 << 30, MAX - 1, MAX};
        for (int value : edges) {
            for (int step : edges) {
                PathOram x = used();
                String call = "fill(0, 16, " + value + ", " + step + ")";
                due(call, x.fill(0, 16, value, step), 0);
                dueState(call, x, 4, series(value, step), USED_FIRST, USED_SECOND);
            }
        }
        PathOram x = new PathOram(6);
        x.fill(13, 3, MAX, 1);
        x.fill(0, 3, MIN, -1);
        x.fill(6, 3, 5, MIN);
        dueBlocks("fills", x, MIN, MAX, MAX - 1, 0, 0, 0, 5, MIN + 5, 5, 0, 0, 0, 0, MAX, MIN, MIN + 1);
    }

    private static void fillWithABadCount() {
        sentence("Promise 8: -1 if count is not in 1 .. 16");
        for (int count : BAD_COUNTS) {
            for (int b : new int[] {0, 15}) {
                dueRefused("fill(" + b + ", " + count + ", 7, 1)", x -> x.fill(b, count, 7, 1), -1);
            }
        }
    }

    private static void fillWithABadStart() {
        sentence("Promise 8: -2 if b < 0 or b > 16 - count");
        for (int count = 1; count <= 16; count++) {
            int good = count;
            int justAbove = 17 - count;
            dueRefused("fill(" + justAbove + ", " + count + ", 7, 1)", x -> x.fill(justAbove, good, 7, 1), -2);
            for (int b : BAD_BLOCKS) {
                dueRefused("fill(" + b + ", " + count + ", 7, 1)", x -> x.fill(b, good, 7, 1), -2);
            }
        }
    }

    private static void fillTestsTheCountFirst() {
        sentence("Promise 8 and Terms: the tests are made in the order named, count before b");
        for (int count : BAD_COUNTS) {
            for (int b : BAD_BLOCKS) {
                dueRefused("fill(" + b + ", " + count + ", 7, 1)", x -> x.fill(b, count, 7, 1), -1);
            }
        }
    }

    private static void dueRotated(int shift, int first) {
        PathOram x = used();
        due("rotate(" + shift + ")", x.rotate(shift), 0);
        int[] want = new int[16];
        for (int k = 0; k < 16; k++) {
            want[k] = USED[(first + k) % 16];
        }
        dueState("rotate(" + shift + ")", x, 4, want, USED_FIRST, USED_SECOND);
    }

    private static void rotateByEveryRemainder() {
        sentence("Promise 9: block (k + shift) mod 16 (the remainder in 0 .. 15, also for negative shifts)");
        for (int shift = 0; shift < 16; shift++) {
            dueRotated(shift, shift);
            dueRotated(shift + 16, shift);
            dueRotated(shift - 16, shift);
            dueRotated(shift - 32, shift);
        }
    }

    private static void rotateByTheOutermostShifts() {
        sentence("Promise 9: mod 16, where k + shift is above the greatest int or shift is the least");
        // The least int is a multiple of 16, and the greatest is one below such a multiple.
        for (int i = 0; i < 16; i++) {
            dueRotated(MIN + i, i);
            dueRotated(MAX - i, 15 - i);
        }
        PathOram x = new PathOram(4);
        due("new: rotate(MIN)", x.rotate(MIN), 0);
        dueNewState("after rotate(MIN)", x, 4);
    }

    private static void dueSum(int want, int... values) {
        PathOram x = new PathOram(9);
        for (int b = 0; b < values.length; b++) {
            x.write(b, values[b]);
        }
        due("sum() of " + java.util.Arrays.toString(values), x.sum(), want);
    }

    private static void sumWraps() {
        sentence("Promise 10: The sum of what all blocks hold (wrapping like an int)");
        due("new: sum()", new PathOram(1).sum(), 0);
        dueSum(MIN, MAX, 1);
        dueSum(MAX, MIN, -1);
        dueSum(0, MIN, MIN);
        dueSum(-2, MAX, MAX);
        dueSum(-1, MIN, MAX);
        dueSum(-16, series(MAX, 0));
        dueSum(0, series(MIN, 0));
        dueSum(120, series(MIN, 1));
        for (int b = 0; b < 16; b++) {
            dueSum(MIN + 15, with(series(1, 0), b, MIN));
        }
        PathOram x = used();
        due("sum()", x.sum(), 1720);
        dueUsedState("after sum()", x);
    }

    private static void findIncludesFrom() {
        sentence("Promise 11: The least number >= from of a block that holds the value");
        PathOram x = used();
        for (int b = 0; b < 16; b++) {
            due("find(" + USED[b] + ", " + b + ")", x.find(USED[b], b), b);
            due("find(" + USED[b] + ", 0)", x.find(USED[b], 0), b);
            due("new: find(0, " + b + ")", new PathOram(2).find(0, b), b);
        }
        PathOram y = holding(MIXED);
        due("find(4, 0)", y.find(4, 0), 0);
        due("find(4, 1)", y.find(4, 1), 2);
        due("find(4, 3)", y.find(4, 3), 9);
        due("find(MIN, 3)", y.find(MIN, 3), 3);
        due("find(MAX, 0)", y.find(MAX, 0), 13);
        due("find(7, 15)", y.find(7, 15), 15);
        due("find(7, 2)", y.find(7, 2), 15);
    }

    private static void findFromABadBlock() {
        sentence("Promise 11: -1 if from is not in 0 .. 15");
        for (int from : BAD_BLOCKS) {
            dueRefused("find(12345, " + from + ")", x -> x.find(12345, from), -1);
        }
    }

    private static void findOfNone() {
        sentence("Promise 11: -2 if there is none");
        PathOram x = used();
        for (int from = 1; from < 16; from++) {
            due("find of what the block before holds, from " + from, x.find(USED[from - 1], from), -2);
        }
        due("find(99, 0)", x.find(99, 0), -2);
        due("find(116, 0)", x.find(116, 0), -2);
        due("find(0, 0)", x.find(0, 0), -2);
        due("find(MIN, 0)", x.find(MIN, 0), -2);
        due("find(MAX, 15)", x.find(MAX, 15), -2);
        due("what only a snapshot holds: find(-50, 0)", x.find(-50, 0), -2);
        dueUsedState("after finds", x);
        PathOram y = new PathOram(1);
        due("new: find(1, 0)", y.find(1, 0), -2);
        dueNewState("after find(1, 0)", y, 4);
    }

    private static void findTestsFromFirst() {
        sentence("Promise 11 and Terms: the tests are made in the order named, from before none");
        for (int from : BAD_BLOCKS) {
            PathOram x = used();
            due("held: find(100, " + from + ")", x.find(100, from), -1);
            due("held: find(115, " + from + ")", x.find(115, from), -1);
            due("not held: find(99, " + from + ")", x.find(99, from), -1);
            due("new, held: find(0, " + from + ")", new PathOram(0).find(0, from), -1);
        }
    }

    private static void belowIsLessNotEqual() {
        sentence("Promise 12: How many blocks hold a value less than the given one");
        PathOram x = holding(MIXED);
        int[][] rows = {
            {MIN, 0}, {MIN + 1, 1}, {-1, 1}, {0, 2}, {1, 3}, {4, 6}, {5, 9}, {7, 9}, {8, 11}, {9, 11}, {10, 15},
            {MAX - 1, 15}, {MAX, 15},
        };
        for (int[] row : rows) {
            due("below(" + row[0] + ")", x.below(row[0]), row[1]);
        }
        PathOram low = holding(series(MIN, 0));
        due("all MIN: below(MIN)", low.below(MIN), 0);
        due("all MIN: below(MIN + 1)", low.below(MIN + 1), 16);
        due("all MIN: below(MAX)", low.below(MAX), 16);
        PathOram high = holding(series(MAX, 0));
        due("all MAX: below(MAX)", high.below(MAX), 0);
        due("all MAX: below(MIN)", high.below(MIN), 0);
        due("new: below(0)", new PathOram(0).below(0), 0);
        due("new: below(1)", new PathOram(0).below(1), 16);
        for (int b = 0; b < 16; b++) {
            due("less in block " + b + " alone: below(1)", holding(with(series(1, 0), b, 0)).below(1), 1);
        }
    }

    private static void rankedFromLeastToGreatest() {
        sentence("Promise 13: The k-th least (k = 0 for the least, 15 for the greatest)");
        PathOram up = holding(series(MIN, 1 << 28));
        PathOram down = holding(series(MAX, -(1 << 28)));
        for (int k = 0; k < 16; k++) {
            due("ascending: ranked(" + k + ")", up.ranked(k), MIN + (k << 28));
            due("descending: ranked(" + k + ")", down.ranked(k), MAX - ((15 - k) << 28));
            due("new: ranked(" + k + ")", new PathOram(k).ranked(k), 0);
        }
        for (int b = 0; b < 16; b++) {
            PathOram x = holding(with(with(new int[16], b, MIN), (b + 1) % 16, MAX));
            due("least in block " + b + ": ranked(0)", x.ranked(0), MIN);
            due("least in block " + b + ": ranked(1)", x.ranked(1), 0);
            due("greatest in the next: ranked(14)", x.ranked(14), 0);
            due("greatest in the next: ranked(15)", x.ranked(15), MAX);
        }
    }

    private static void rankedCountsEqualValues() {
        sentence("Promise 13: equal values counted as often as they are held");
        int[] sorted = MIXED.clone();
        java.util.Arrays.sort(sorted);
        PathOram x = holding(MIXED);
        PathOram same = holding(series(MIN, 0));
        for (int k = 0; k < 16; k++) {
            due("ranked(" + k + ")", x.ranked(k), sorted[k]);
            due("all MIN: ranked(" + k + ")", same.ranked(k), MIN);
        }
        for (int low = 0; low <= 16; low++) {
            PathOram two = holding(series(5, 0));
            if (low > 0) {
                two.fill(16 - low, low, -5, 0);
            }
            for (int k = 0; k < 16; k++) {
                due(low + " times -5: ranked(" + k + ")", two.ranked(k), k < low ? -5 : 5);
            }
        }
    }

    private static void rankedOfABadRank() {
        sentence("Promise 13: 0 if k is not in 0 .. 15");
        for (int k : BAD_BLOCKS) {
            dueRefused("ranked(" + k + ")", x -> x.ranked(k), 0);
        }
    }

    private static void saveTakesEveryBlock() {
        sentence("Promise 14: The snapshot gets what the blocks hold .. otherwise 0");
        PathOram x = used();
        due("save(0)", x.save(0), 0);
        dueState("save(0)", x, 4, USED, USED, USED_SECOND);
        PathOram y = used();
        due("save(1)", y.save(1), 0);
        dueState("save(1)", y, 4, USED, USED_FIRST, USED);
        for (int b = 0; b < 16; b++) {
            PathOram z = used();
            z.write(b, MIN);
            z.save(0);
            z.write(b, MAX);
            z.save(1);
            z.write(b, USED[b]);
            dueState("saves of block " + b, z, 4, USED, with(USED, b, MIN), with(USED, b, MAX));
        }
        PathOram fresh = new PathOram(1);
        due("new: save(0)", fresh.save(0), 0);
        due("new: save(1)", fresh.save(1), 0);
        dueNewState("after saves", fresh, 4);
    }

    private static void saveToABadSnapshot() {
        sentence("Promise 14: -1 if snapshot is not good");
        for (int snapshot : BAD_SNAPSHOTS) {
            dueRefused("save(" + snapshot + ")", x -> x.save(snapshot), -1);
        }
    }

    private static void loadOfAnUnsavedSnapshot() {
        sentence("Promise 15: The blocks get what the snapshot holds (0 at first)");
        for (int snapshot : new int[] {0, 1}) {
            due("new: load(" + snapshot + ")", new PathOram(1).load(snapshot), 0);
            PathOram x = holding(series(MIN, 1));
            due("full: load(" + snapshot + ")", x.load(snapshot), 16);
            dueState("unsaved load(" + snapshot + ")", x, 4, new int[16], new int[16], new int[16]);
            for (int b = 0; b < 16; b++) {
                PathOram y = new PathOram(b);
                y.write(b, MAX);
                due("block " + b + " alone: load(" + snapshot + ")", y.load(snapshot), 1);
                due("block " + b + " alone: read(" + b + ")", y.read(b), 0);
            }
        }
    }

    private static void loadCountsTheBlocksThatChange() {
        sentence("Promise 15: answers how many blocks hold something else now than before");
        PathOram x = used();
        x.save(0);
        for (int count = 0; count <= 16; count++) {
            if (count > 0) {
                x.fill(16 - count, count, -1, -1);
            }
            due(count + " changed: load(0)", x.load(0), count);
            due("just loaded: load(0)", x.load(0), 0);
        }
        x.rotate(1);
        due("rotated: load(0)", x.load(0), 16);
        dueState("loads", x, 4, USED, USED, USED_SECOND);
    }

    private static void loadOfABadSnapshot() {
        sentence("Promise 15: -1 if snapshot is not good");
        for (int snapshot : BAD_SNAPSHOTS) {
            dueRefused("load(" + snapshot + ")", x -> x.load(snapshot), -1);
        }
    }

    private static void differingFromNoneToAll() {
        sentence("Promise 16: How many blocks hold something else than the snapshot");
        due("new: differing(0)", new PathOram(0).differing(0), 0);
        due("new: differing(1)", new PathOram(0).differing(1), 0);
        PathOram x = used();
        for (int count = 0; count <= 16; count++) {
            x.load(1);
            if (count > 0) {
                x.fill(16 - count, count, MAX, -1);
            }
            due(count + " changed: differing(1)", x.differing(1), count);
            due(count + " changed: differing(0)", x.differing(0), 16);
        }
        for (int b = 0; b < 16; b++) {
            PathOram y = new PathOram(b);
            y.write(b, MIN);
            due("block " + b + " alone: differing(0)", y.differing(0), 1);
            due("block " + b + " alone: differing(1)", y.differing(1), 1);
            y.save(0);
            due("saved in 0: differing(0)", y.differing(0), 0);
            due("saved in 0: differing(1)", y.differing(1), 1);
        }
    }

    private static void differingFromABadSnapshot() {
        sentence("Promise 16: -1 if snapshot is not good");
        for (int snapshot : BAD_SNAPSHOTS) {
            dueRefused("differing(" + snapshot + ")", x -> x.differing(snapshot), -1);
        }
    }

    private static void auditIsAlwaysZero() {
        sentence("Promise 17: always 0");
        for (int seed : SEEDS) {
            PathOram x = new PathOram(seed);
            due("new: audit()", x.audit(), 0);
            for (int i = 0; i < 160; i++) {
                x.stir(seed);
                x.add(i & 15, 1);
                due("audit() after stir and add " + i, x.audit(), 0);
            }
            x.rotate(7);
            due("audit() after rotate", x.audit(), 0);
            due("sum() after all", x.sum(), 160);
        }
    }

    private static void touchedIsZeroAsLongAsThereWasNoAccess() {
        sentence("Promise 18: 0 as long as there was none");
        PathOram x = new PathOram(3);
        due("new: touched()", x.touched(), 0);
        due("touched() after touched()", x.touched(), 0);
        due("new: audit()", x.audit(), 0);
        due("touched() after audit()", x.touched(), 0);
        x.stir(MIN);
        due("touched() after stir", x.touched(), 0);
        for (Call refused : refusedCalls()) {
            refused.on(x);
            due("touched() after a refused call", x.touched(), 0);
        }
        x.read(0);
        due("touched() after read(0)", x.touched(), 4);
    }

    private static Call[] refusedCalls() {
        return new Call[] {
            x -> x.read(16), x -> x.write(-1, 1), x -> x.add(16, 1), x -> x.exchange(-1, 0), x -> x.exchange(0, 16),
            x -> x.copy(16, 0), x -> x.copy(0, -1), x -> x.fill(0, 0, 1, 1), x -> x.fill(0, 17, 1, 1),
            x -> x.fill(-1, 1, 1, 1), x -> x.fill(1, 16, 1, 1), x -> x.find(0, -1), x -> x.find(0, 16),
            x -> x.ranked(-1), x -> x.ranked(16), x -> x.save(2), x -> x.load(-1), x -> x.differing(2)
        };
    }

    private static void touchedIsFourAfterEveryAccess() {
        sentence("Promise 18: 4 always .. what read, write, .. or differing does when it is not refused");
        dueAccess("read(0)", x -> x.read(0));
        dueAccess("read(15)", x -> x.read(15));
        dueAccess("write(15, 0)", x -> x.write(15, 0));
        dueAccess("add(0, 0)", x -> x.add(0, 0));
        dueAccess("exchange(0, 15)", x -> x.exchange(0, 15));
        dueAccess("exchange(4, 4)", x -> x.exchange(4, 4));
        dueAccess("copy(15, 0)", x -> x.copy(15, 0));
        dueAccess("copy(4, 4)", x -> x.copy(4, 4));
        dueAccess("fill(0, 16, 0, 0)", x -> x.fill(0, 16, 0, 0));
        dueAccess("fill(15, 1, 0, 0)", x -> x.fill(15, 1, 0, 0));
        dueAccess("rotate(1)", x -> x.rotate(1));
        dueAccess("rotate(0)", x -> x.rotate(0));
        dueAccess("rotate(MIN)", x -> x.rotate(MIN));
        dueAccess("sum()", x -> x.sum());
        dueAccess("find(0, 0)", x -> x.find(0, 0));
        dueAccess("find(0, 15)", x -> x.find(0, 15));
        dueAccess("find(77, 0), which finds none", x -> x.find(77, 0));
        dueAccess("find(77, 15), which finds none", x -> x.find(77, 15));
        dueAccess("below(MIN)", x -> x.below(MIN));
        dueAccess("ranked(0)", x -> x.ranked(0));
        dueAccess("ranked(15)", x -> x.ranked(15));
        dueAccess("save(0)", x -> x.save(0));
        dueAccess("load(1)", x -> x.load(1));
        dueAccess("differing(0)", x -> x.differing(0));
    }

    private static void touchedIsAsBeforeAfterEveryRefusal() {
        sentence("Promise 18: the last access, what a call does when it is not refused");
        PathOram x = used();
        for (Call refused : refusedCalls()) {
            refused.on(x);
            due("touched() after a refused call", x.touched(), 4);
        }
        x.audit();
        due("touched() after audit()", x.touched(), 4);
        x.stir(0);
        due("touched() after stir", x.touched(), 4);
        dueUsedState("after every refused call", x);
    }

    private static void badReadAddAndRankedAccessNothing() {
        sentence("Promise 19: with a b (or k) that is not good nothing is accessed, touched answers as before");
        for (int bad : BAD_BLOCKS) {
            for (Call call : new Call[] {x -> x.read(bad), x -> x.add(bad, 1), x -> x.ranked(bad)}) {
                PathOram x = new PathOram(bad);
                due("new: a call with " + bad, call.on(x), 0);
                due("new: touched() after it", x.touched(), 0);
                x.write(0, 1);
                due("touched() after write(0, 1)", x.touched(), 4);
                due("a call with " + bad, call.on(x), 0);
                due("touched() after it", x.touched(), 4);
                due("sum() after it", x.sum(), 1);
            }
        }
    }
}
