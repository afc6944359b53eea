/** One section for each promise of the document: ordinary inputs, its edges, wrong inputs. */
public final class PromiseTest {
    private static final int MIN = Integer.MIN_VALUE;
    private static final int MAX = Integer.MAX_VALUE;
    private static final int[] BAD_BLOCKS = {-1, 16, 17, -16, 31, MIN, MAX};
    private static final int[] BAD_SNAPSHOTS = {-1, 2, 3, 16, MIN, MAX};
    private static final int[] SEEDS = {0, 1, -1, 7, 16, 12345, MIN, MAX};

    private static int wrong = 0;

    public static void main(String[] args) {
        promise1NewObject();
        promise2Stir();
        promise3Read();
        promise4Write();
        promise5Add();
        promise6Exchange();
        promise7Copy();
        promise8Fill();
        promise9Rotate();
        promise10Sum();
        promise11Find();
        promise12Below();
        promise13Ranked();
        promise14Save();
        promise15Load();
        promise16Differing();
        promise17Audit();
        promise18Touched();
        promise19RefusedCallsAccessNothing();
        System.out.println(wrong == 0 ? "all answers are as due" : wrong + " answers are not as due");
        if (wrong != 0) {
            System.exit(1);
        }
    }

    private static void due(String call, int got, int want) {
        if (got != want) {
            wrong++;
            System.out.println(call + " answered " + got + ", due is " + want);
        }
    }

    private static void dueBlocks(String when, PathOram x, int... want) {
        for (int b = 0; b < 16; b++) {
            due(when + ": read(" + b + ")", x.read(b), want[b]);
        }
        due(when + ": audit()", x.audit(), 0);
    }

    private static int[] series(int value, int step) {
        int[] values = new int[16];
        for (int b = 0; b < 16; b++) {
            values[b] = value + b * step;
        }
        return values;
    }

    /** Block b holds 100 + b. */
    private static PathOram filled() {
        PathOram x = new PathOram(5);
        due("fill(0, 16, 100, 1)", x.fill(0, 16, 100, 1), 0);
        return x;
    }

    private static PathOram holding(int... values) {
        PathOram x = new PathOram(-3);
        for (int b = 0; b < 16; b++) {
            due("write(" + b + ", " + values[b] + ")", x.write(b, values[b]), 0);
        }
        return x;
    }

    private static void promise1NewObject() {
        for (int seed : SEEDS) {
            PathOram x = new PathOram(seed);
            due("new: touched()", x.touched(), 0);
            due("new: audit()", x.audit(), 0);
            due("new: differing(0)", x.differing(0), 0);
            due("new: differing(1)", x.differing(1), 0);
            dueBlocks("new, seed " + seed, x, new int[16]);
            due("new: load(0)", x.load(0), 0);
            due("new: load(1)", x.load(1), 0);
            x.fill(0, 16, 9, 9);
            dueBlocks("filled, seed " + seed, x, series(9, 9));
        }
    }

    private static void promise2Stir() {
        for (int seed : SEEDS) {
            PathOram x = new PathOram(2);
            x.stir(seed);
            due("stirred new: touched()", x.touched(), 0);
            x.fill(0, 16, 3, 5);
            x.save(1);
            x.stir(seed);
            due("stirred: touched()", x.touched(), 4);
            dueBlocks("stirred with " + seed, x, series(3, 5));
            for (int b = 0; b < 16; b++) {
                x.stir(seed);
                due("stirred each time: read(" + b + ")", x.read(b), 3 + 5 * b);
                due("stirred each time: audit()", x.audit(), 0);
            }
            due("stirred: differing(1)", x.differing(1), 0);
            due("stirred: differing(0)", x.differing(0), 16);
        }
    }

    private static void promise3Read() {
        PathOram x = filled();
        dueBlocks("read", x, series(100, 1));
        for (int b : BAD_BLOCKS) {
            due("read(" + b + ")", x.read(b), 0);
        }
        dueBlocks("read again", x, series(100, 1));
    }

    private static void promise4Write() {
        PathOram x = filled();
        due("write(0, MIN)", x.write(0, MIN), 0);
        due("write(15, MAX)", x.write(15, MAX), 0);
        due("write(6, -1)", x.write(6, -1), 0);
        due("write(6, -2)", x.write(6, -2), 0);
        for (int b : BAD_BLOCKS) {
            due("write(" + b + ", 4)", x.write(b, 4), -1);
        }
        int[] want = series(100, 1);
        want[0] = MIN;
        want[15] = MAX;
        want[6] = -2;
        dueBlocks("write", x, want);
    }

    private static void promise5Add() {
        PathOram x = filled();
        due("add(0, 5)", x.add(0, 5), 105);
        due("add(15, -200)", x.add(15, -200), -85);
        due("add(3, 0)", x.add(3, 0), 103);
        due("add(4, MAX)", x.add(4, MAX), MIN + 103);
        x.write(5, MIN);
        due("add(5, -1)", x.add(5, -1), MAX);
        for (int b : BAD_BLOCKS) {
            due("add(" + b + ", 4)", x.add(b, 4), 0);
        }
        int[] want = series(100, 1);
        want[0] = 105;
        want[15] = -85;
        want[4] = MIN + 103;
        want[5] = MAX;
        dueBlocks("add", x, want);
    }

    private static void promise6Exchange() {
        PathOram x = filled();
        due("exchange(0, 15)", x.exchange(0, 15), 0);
        due("exchange(9, 2)", x.exchange(9, 2), 0);
        due("exchange(7, 7)", x.exchange(7, 7), 0);
        for (int b : BAD_BLOCKS) {
            due("exchange(" + b + ", 1)", x.exchange(b, 1), -1);
            due("exchange(1, " + b + ")", x.exchange(1, b), -1);
            due("exchange(" + b + ", " + b + ")", x.exchange(b, b), -1);
        }
        int[] want = series(100, 1);
        want[0] = 115;
        want[15] = 100;
        want[9] = 102;
        want[2] = 109;
        dueBlocks("exchange", x, want);
    }

    private static void promise7Copy() {
        PathOram x = filled();
        due("copy(0, 15)", x.copy(0, 15), 0);
        due("copy(9, 2)", x.copy(9, 2), 0);
        due("copy(7, 7)", x.copy(7, 7), 0);
        for (int b : BAD_BLOCKS) {
            due("copy(" + b + ", 1)", x.copy(b, 1), -1);
            due("copy(1, " + b + ")", x.copy(1, b), -1);
            due("copy(" + b + ", " + b + ")", x.copy(b, b), -1);
        }
        int[] want = series(100, 1);
        want[15] = 100;
        want[2] = 109;
        dueBlocks("copy", x, want);
    }

    private static void promise8Fill() {
        PathOram x = filled();
        due("fill(3, 4, 10, -7)", x.fill(3, 4, 10, -7), 0);
        due("fill(15, 1, 1, 9)", x.fill(15, 1, 1, 9), 0);
        due("fill(0, 1, 2, 9)", x.fill(0, 1, 2, 9), 0);
        due("fill(13, 2, MAX, 1)", x.fill(13, 2, MAX, 1), 0);
        int[] want = series(100, 1);
        want[3] = 10;
        want[4] = 3;
        want[5] = -4;
        want[6] = -11;
        want[15] = 1;
        want[0] = 2;
        want[13] = MAX;
        want[14] = MIN;
        for (int count : new int[] {0, -1, 17, MIN, MAX}) {
            due("fill(0, " + count + ", 1, 1)", x.fill(0, count, 1, 1), -1);
            due("fill(-1, " + count + ", 1, 1)", x.fill(-1, count, 1, 1), -1);
            due("fill(16, " + count + ", 1, 1)", x.fill(16, count, 1, 1), -1);
        }
        due("fill(1, 16, 1, 1)", x.fill(1, 16, 1, 1), -2);
        due("fill(-1, 16, 1, 1)", x.fill(-1, 16, 1, 1), -2);
        due("fill(16, 1, 1, 1)", x.fill(16, 1, 1, 1), -2);
        due("fill(15, 2, 1, 1)", x.fill(15, 2, 1, 1), -2);
        due("fill(-1, 1, 1, 1)", x.fill(-1, 1, 1, 1), -2);
        due("fill(MIN, 5, 1, 1)", x.fill(MIN, 5, 1, 1), -2);
        due("fill(MAX, 5, 1, 1)", x.fill(MAX, 5, 1, 1), -2);
        dueBlocks("fill", x, want);
        due("fill(0, 16, MIN, MAX)", x.fill(0, 16, MIN, MAX), 0);
        dueBlocks("fill, wrapping", x, series(MIN, MAX));
        due("fill(0, 16, 6, 0)", x.fill(0, 16, 6, 0), 0);
        dueBlocks("fill, step 0", x, series(6, 0));
        due("fill(0, 15, 1, 0)", x.fill(0, 15, 1, 0), 0);
        due("fill(1, 15, 2, 0)", x.fill(1, 15, 2, 0), 0);
        want = series(2, 0);
        want[0] = 1;
        dueBlocks("fill of 15", x, want);
    }

    private static void promise9Rotate() {
        int[] shifts = {0, 1, -1, 3, 8, 15, 16, -15, -16, -17, 17, 32, 1000, -1001,
            MIN, MIN + 1, MIN + 9, MAX, MAX - 1, MAX - 9};
        for (int shift : shifts) {
            PathOram x = filled();
            due("rotate(" + shift + ")", x.rotate(shift), 0);
            int[] want = new int[16];
            for (int k = 0; k < 16; k++) {
                want[k] = 100 + (int) Math.floorMod((long) k + shift, 16L);
            }
            dueBlocks("rotate(" + shift + ")", x, want);
        }
    }

    private static void promise10Sum() {
        due("new: sum()", new PathOram(1).sum(), 0);
        PathOram x = filled();
        due("sum()", x.sum(), 1720);
        x.fill(0, 16, 0, 0);
        x.write(0, MAX);
        x.write(15, 2);
        due("sum() above MAX", x.sum(), MIN + 1);
        x.write(0, MIN);
        x.write(15, -2);
        due("sum() below MIN", x.sum(), MAX - 1);
        x.fill(0, 16, MAX, 0);
        due("sum() of sixteen MAX", x.sum(), -16);
    }

    private static void promise11Find() {
        PathOram x = holding(4, 7, 4, MIN, 9, 9, 9, 0, -1, 4, 1, 2, 3, MAX, 9, 7);
        due("find(4, 0)", x.find(4, 0), 0);
        due("find(4, 1)", x.find(4, 1), 2);
        due("find(4, 2)", x.find(4, 2), 2);
        due("find(4, 3)", x.find(4, 3), 9);
        due("find(4, 10)", x.find(4, 10), -2);
        due("find(7, 2)", x.find(7, 2), 15);
        due("find(7, 15)", x.find(7, 15), 15);
        due("find(9, 15)", x.find(9, 15), -2);
        due("find(MIN, 0)", x.find(MIN, 0), 3);
        due("find(MAX, 0)", x.find(MAX, 0), 13);
        due("find(-1, 0)", x.find(-1, 0), 8);
        due("find(77, 0)", x.find(77, 0), -2);
        for (int from : BAD_BLOCKS) {
            due("find(4, " + from + ")", x.find(4, from), -1);
            due("find(77, " + from + ")", x.find(77, from), -1);
        }
    }

    private static void promise12Below() {
        PathOram x = holding(4, 7, 4, MIN, 9, 9, 9, 0, -1, 4, 1, 2, 3, MAX, 9, 7);
        due("below(MIN)", x.below(MIN), 0);
        due("below(MIN + 1)", x.below(MIN + 1), 1);
        due("below(-1)", x.below(-1), 1);
        due("below(0)", x.below(0), 2);
        due("below(4)", x.below(4), 6);
        due("below(5)", x.below(5), 9);
        due("below(9)", x.below(9), 11);
        due("below(10)", x.below(10), 15);
        due("below(MAX)", x.below(MAX), 15);
        PathOram y = new PathOram(0);
        due("new: below(0)", y.below(0), 0);
        due("new: below(1)", y.below(1), 16);
    }

    private static void promise13Ranked() {
        PathOram x = holding(4, 7, 4, MIN, 9, 9, 9, 0, -1, 4, 1, 2, 3, MAX, 9, 7);
        int[] want = {MIN, -1, 0, 1, 2, 3, 4, 4, 4, 7, 7, 9, 9, 9, 9, MAX};
        for (int k = 0; k < 16; k++) {
            due("ranked(" + k + ")", x.ranked(k), want[k]);
        }
        PathOram low = new PathOram(0);
        low.fill(0, 16, MIN, 0);
        PathOram down = new PathOram(0);
        down.fill(0, 16, -1, -1);
        for (int k = 0; k < 16; k++) {
            due("all MIN: ranked(" + k + ")", low.ranked(k), MIN);
            due("descending: ranked(" + k + ")", down.ranked(k), k - 16);
        }
        for (int k : BAD_BLOCKS) {
            due("ranked(" + k + ")", x.ranked(k), 0);
        }
    }

    private static void promise14Save() {
        PathOram x = filled();
        due("save(0)", x.save(0), 0);
        x.write(0, 1);
        x.write(15, 2);
        due("save(1)", x.save(1), 0);
        x.fill(0, 16, -1, -1);
        for (int snapshot : BAD_SNAPSHOTS) {
            due("save(" + snapshot + ")", x.save(snapshot), -1);
        }
        dueBlocks("save", x, series(-1, -1));
        x.load(0);
        dueBlocks("saved in 0", x, series(100, 1));
        x.load(1);
        int[] want = series(100, 1);
        want[0] = 1;
        want[15] = 2;
        dueBlocks("saved in 1", x, want);
        due("save(0) again", x.save(0), 0);
        due("differing(0) after saving again", x.differing(0), 0);
    }

    private static void promise15Load() {
        PathOram x = filled();
        x.save(1);
        due("load(1) unchanged", x.load(1), 0);
        x.write(0, 0);
        x.write(8, 108);
        x.write(15, 0);
        for (int snapshot : BAD_SNAPSHOTS) {
            due("load(" + snapshot + ")", x.load(snapshot), -1);
        }
        due("load refused: read(0)", x.read(0), 0);
        due("load(1)", x.load(1), 2);
        dueBlocks("load(1)", x, series(100, 1));
        due("load(0)", x.load(0), 16);
        dueBlocks("load(0)", x, new int[16]);
        due("load(0) again", x.load(0), 0);
        x.write(4, 104);
        due("load(1) with one alike", x.load(1), 15);
        x.write(3, 5);
        due("a snapshot stays as it was: differing(1)", x.differing(1), 1);
    }

    private static void promise16Differing() {
        PathOram x = filled();
        due("differing(0)", x.differing(0), 16);
        due("differing(1)", x.differing(1), 16);
        x.save(1);
        due("differing(1) after save", x.differing(1), 0);
        due("differing(0) after save(1)", x.differing(0), 16);
        x.exchange(0, 15);
        due("differing(1) after exchange", x.differing(1), 2);
        x.write(5, 0);
        due("differing(0) after write", x.differing(0), 15);
        due("differing(1) after write", x.differing(1), 3);
        for (int snapshot : BAD_SNAPSHOTS) {
            due("differing(" + snapshot + ")", x.differing(snapshot), -1);
        }
        due("a question changes nothing: differing(1)", x.differing(1), 3);
        due("a question changes nothing: read(0)", x.read(0), 115);
    }

    private static void promise17Audit() {
        for (int seed : SEEDS) {
            PathOram x = new PathOram(seed);
            for (int i = 0; i < 60; i++) {
                due("audit() after write " + i, x.write(i * 7 & 15, i) + x.audit(), 0);
                due("audit() after read " + i, x.read(i * 7 & 15) - i + x.audit(), 0);
                due("audit() after rotate " + i, x.rotate(0) + x.audit(), 0);
            }
        }
    }

    private interface Call {
        int on(PathOram x);
    }

    private static void promise18Touched() {
        dueAccess("read", x -> x.read(0));
        dueAccess("write", x -> x.write(15, 0));
        dueAccess("add", x -> x.add(3, 0));
        dueAccess("exchange", x -> x.exchange(1, 2));
        dueAccess("exchange with itself", x -> x.exchange(4, 4));
        dueAccess("copy", x -> x.copy(1, 2));
        dueAccess("copy onto itself", x -> x.copy(4, 4));
        dueAccess("fill", x -> x.fill(0, 16, 0, 0));
        dueAccess("fill of one", x -> x.fill(15, 1, 0, 0));
        dueAccess("rotate", x -> x.rotate(1));
        dueAccess("rotate by 0", x -> x.rotate(0));
        dueAccess("rotate by 16", x -> x.rotate(16));
        dueAccess("sum", x -> x.sum());
        dueAccess("find", x -> x.find(0, 0));
        dueAccess("find at the end", x -> x.find(0, 15));
        dueAccess("find of none", x -> x.find(1, 0));
        dueAccess("below", x -> x.below(0));
        dueAccess("ranked", x -> x.ranked(0));
        dueAccess("save", x -> x.save(0));
        dueAccess("load", x -> x.load(1));
        dueAccess("differing", x -> x.differing(1));
    }

    private static void dueAccess(String name, Call call) {
        PathOram x = new PathOram(11);
        due("before " + name + ": touched()", x.touched(), 0);
        call.on(x);
        due("after " + name + ": touched()", x.touched(), 4);
        due("after touched: touched()", x.touched(), 4);
        x.audit();
        due("after audit: touched()", x.touched(), 4);
        x.stir(3);
        due("after stir: touched()", x.touched(), 4);
        call.on(x);
        due("after two of " + name + ": touched()", x.touched(), 4);
    }

    private static void promise19RefusedCallsAccessNothing() {
        for (int b : BAD_BLOCKS) {
            dueNoAccess("read", x -> x.read(b));
            dueNoAccess("write", x -> x.write(b, 1));
            dueNoAccess("add", x -> x.add(b, 1));
            dueNoAccess("exchange, first", x -> x.exchange(b, 1));
            dueNoAccess("exchange, second", x -> x.exchange(1, b));
            dueNoAccess("copy, from", x -> x.copy(b, 1));
            dueNoAccess("copy, to", x -> x.copy(1, b));
            dueNoAccess("fill", x -> x.fill(b, 1, 1, 1));
            dueNoAccess("find", x -> x.find(0, b));
            dueNoAccess("ranked", x -> x.ranked(b));
        }
        for (int count : new int[] {0, -1, 17, MIN, MAX}) {
            dueNoAccess("fill, count", x -> x.fill(0, count, 1, 1));
        }
        for (int snapshot : BAD_SNAPSHOTS) {
            dueNoAccess("save", x -> x.save(snapshot));
            dueNoAccess("load", x -> x.load(snapshot));
            dueNoAccess("differing", x -> x.differing(snapshot));
        }
        dueNoAccess("audit", x -> x.audit());
    }

    private static void dueNoAccess(String name, Call call) {
        PathOram x = new PathOram(11);
        call.on(x);
        due("new, after " + name + " that is no access: touched()", x.touched(), 0);
        x.fill(0, 16, 100, 1);
        call.on(x);
        due("used, after " + name + " that is no access: touched()", x.touched(), 4);
        dueBlocks("after " + name + " that is no access", x, series(100, 1));
    }
}
