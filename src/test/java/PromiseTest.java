/** One section for each promise of the document, mostly ordinary inputs; BoundaryTest has the edges. */
public final class PromiseTest extends Checks {
    public static void main(String[] args) {
        promise1NewObject();
        promise2Stir();
        promise3Read();
        promise4Write();
        promise5Add();
        promise6Exchange();
        promise7Copy();
        promise8Fill();
        promise9Rotate();
        promise10Sum();
        promise11Find();
        promise12Below();
        promise13Ranked();
        promise14Save();
        promise15Load();
        promise16Differing();
        promise17Audit();
        promise18Touched();
        promise19RefusedCallsAccessNothing();
        end();
    }

    /** Block b holds 100 + b. */
    private static PathOram filled() {
        PathOram x = new PathOram(5);
        due("fill(0, 16, 100, 1)", x.fill(0, 16, 100, 1), 0);
        return x;
    }

    private static void dueBadPairs(String name, PathOram x, PairCall call) {
        for (int b : BAD_BLOCKS) {
            due(name + "(" + b + ", 1)", call.on(x, b, 1), -1);
            due(name + "(1, " + b + ")", call.on(x, 1, b), -1);
            due(name + "(" + b + ", " + b + ")", call.on(x, b, b), -1);
        }
    }

    private static void promise1NewObject() {
        sentence("Promise 1");
        for (int seed : SEEDS) {
            PathOram x = new PathOram(seed);
            due("new: touched()", x.touched(), 0);
            due("new: audit()", x.audit(), 0);
            due("new: differing(0)", x.differing(0), 0);
            due("new: differing(1)", x.differing(1), 0);
            dueBlocks("new, seed " + seed, x, new int[16]);
            due("new: load(0)", x.load(0), 0);
            due("new: load(1)", x.load(1), 0);
            x.fill(0, 16, 9, 9);
            dueBlocks("filled, seed " + seed, x, series(9, 9));
        }
    }

    private static void promise2Stir() {
        sentence("Promise 2");
        for (int seed : SEEDS) {
            PathOram x = new PathOram(2);
            x.stir(seed);
            due("stirred new: touched()", x.touched(), 0);
            x.fill(0, 16, 3, 5);
            x.save(1);
            x.stir(seed);
            due("stirred: touched()", x.touched(), 4);
            dueBlocks("stirred with " + seed, x, series(3, 5));
            for (int b = 0; b < 16; b++) {
                x.stir(seed);
                due("stirred each time: read(" + b + ")", x.read(b), 3 + 5 * b);
                due("stirred each time: audit()", x.audit(), 0);
            }
            due("stirred: differing(1)", x.differing(1), 0);
            due("stirred: differing(0)", x.differing(0), 16);
        }
    }

    private static void promise3Read() {
        sentence("Promise 3");
        PathOram x = filled();
        dueBlocks("read", x, series(100, 1));
        for (int b : BAD_BLOCKS) {
            due("read(" + b + ")", x.read(b), 0);
        }
        dueBlocks("read again", x, series(100, 1));
    }

    private static void promise4Write() {
        sentence("Promise 4");
        PathOram x = filled();
        due("write(0, MIN)", x.write(0, MIN), 0);
        due("write(15, MAX)", x.write(15, MAX), 0);
        due("write(6, -1)", x.write(6, -1), 0);
        due("write(6, -2)", x.write(6, -2), 0);
        for (int b : BAD_BLOCKS) {
            due("write(" + b + ", 4)", x.write(b, 4), -1);
        }
        int[] want = series(100, 1);
        want[0] = MIN;
        want[15] = MAX;
        want[6] = -2;
        dueBlocks("write", x, want);
    }

    private static void promise5Add() {
        sentence("Promise 5");
        PathOram x = filled();
        due("add(0, 5)", x.add(0, 5), 105);
        due("add(15, -200)", x.add(15, -200), -85);
        due("add(3, 0)", x.add(3, 0), 103);
        due("add(4, MAX)", x.add(4, MAX), MIN + 103);
        x.write(5, MIN);
        due("add(5, -1)", x.add(5, -1), MAX);
        for (int b : BAD_BLOCKS) {
            due("add(" + b + ", 4)", x.add(b, 4), 0);
        }
        int[] want = series(100, 1);
        want[0] = 105;
        want[15] = -85;
        want[4] = MIN + 103;
        want[5] = MAX;
        dueBlocks("add", x, want);
    }

    private static void promise6Exchange() {
        sentence("Promise 6");
        PathOram x = filled();
        due("exchange(0, 15)", x.exchange(0, 15), 0);
        due("exchange(9, 2)", x.exchange(9, 2), 0);
        due("exchange(7, 7)", x.exchange(7, 7), 0);
        dueBadPairs("exchange", x, PathOram::exchange);
        int[] want = series(100, 1);
        want[0] = 115;
        want[15] = 100;
        want[9] = 102;
        want[2] = 109;
        dueBlocks("exchange", x, want);
    }

    private static void promise7Copy() {
        sentence("Promise 7");
        PathOram x = filled();
        due("copy(0, 15)", x.copy(0, 15), 0);
        due("copy(9, 2)", x.copy(9, 2), 0);
        due("copy(7, 7)", x.copy(7, 7), 0);
        dueBadPairs("copy", x, PathOram::copy);
        int[] want = series(100, 1);
        want[15] = 100;
        want[2] = 109;
        dueBlocks("copy", x, want);
    }

    private static void promise8Fill() {
        sentence("Promise 8");
        PathOram x = filled();
        due("fill(3, 4, 10, -7)", x.fill(3, 4, 10, -7), 0);
        due("fill(15, 1, 1, 9)", x.fill(15, 1, 1, 9), 0);
        due("fill(0, 1, 2, 9)", x.fill(0, 1, 2, 9), 0);
        due("fill(13, 2, MAX, 1)", x.fill(13, 2, MAX, 1), 0);
        int[] want = series(100, 1);
        want[3] = 10;
        want[4] = 3;
        want[5] = -4;
        want[6] = -11;
        want[15] = 1;
        want[0] = 2;
        want[13] = MAX;
        want[14] = MIN;
        for (int count : new int[] {0, -1, 17, MIN, MAX}) {
            due("fill(0, " + count + ", 1, 1)", x.fill(0, count, 1, 1), -1);
            due("fill(-1, " + count + ", 1, 1)", x.fill(-1, count, 1, 1), -1);
            due("fill(16, " + count + ", 1, 1)", x.fill(16, count, 1, 1), -1);
        }
        due("fill(1, 16, 1, 1)", x.fill(1, 16, 1, 1), -2);
        due("fill(-1, 16, 1, 1)", x.fill(-1, 16, 1, 1), -2);
        due("fill(16, 1, 1, 1)", x.fill(16, 1, 1, 1), -2);
        due("fill(15, 2, 1, 1)", x.fill(15, 2, 1, 1), -2);
        due("fill(-1, 1, 1, 1)", x.fill(-1, 1, 1, 1), -2);
        due("fill(MIN, 5, 1, 1)", x.fill(MIN, 5, 1, 1), -2);
        due("fill(MAX, 5, 1, 1)", x.fill(MAX, 5, 1, 1), -2);
        dueBlocks("fill", x, want);
        due("fill(0, 16, MIN, MAX)", x.fill(0, 16, MIN, MAX), 0);
        dueBlocks("fill, wrapping", x, series(MIN, MAX));
        due("fill(0, 16, 6, 0)", x.fill(0, 16, 6, 0), 0);
        dueBlocks("fill, step 0", x, series(6, 0));
        due("fill(0, 15, 1, 0)", x.fill(0, 15, 1, 0), 0);
        due("fill(1, 15, 2, 0)", x.fill(1, 15, 2, 0), 0);
        want = series(2, 0);
        want[0] = 1;
        dueBlocks("fill of 15", x, want);
    }

    private static void promise9Rotate() {
        sentence("Promise 9");
        int[] shifts = {0, 1, -1, 3, 8, 15, 16, -15, -16, -17, 17, 32, 1000, -1001,
            MIN, MIN + 1, MIN + 9, MAX, MAX - 1, MAX - 9};
        for (int shift : shifts) {
            PathOram x = filled();
            due("rotate(" + shift + ")", x.rotate(shift), 0);
            int[] want = new int[16];
            for (int k = 0; k < 16; k++) {
                want[k] = 100 + (int) Math.floorMod((long) k + shift, 16L);
            }
            dueBlocks("rotate(" + shift + ")", x, want);
        }
    }

    private static void promise10Sum() {
        sentence("Promise 10");
        due("new: sum()", new PathOram(1).sum(), 0);
        PathOram x = filled();
        due("sum()", x.sum(), 1720);
        x.fill(0, 16, 0, 0);
        x.write(0, MAX);
        x.write(15, 2);
        due("sum() above MAX", x.sum(), MIN + 1);
        x.write(0, MIN);
        x.write(15, -2);
        due("sum() below MIN", x.sum(), MAX - 1);
        x.fill(0, 16, MAX, 0);
        due("sum() of sixteen MAX", x.sum(), -16);
    }

    private static void promise11Find() {
        sentence("Promise 11");
        PathOram x = holding(4, 7, 4, MIN, 9, 9, 9, 0, -1, 4, 1, 2, 3, MAX, 9, 7);
        due("find(4, 0)", x.find(4, 0), 0);
        due("find(4, 1)", x.find(4, 1), 2);
        due("find(4, 2)", x.find(4, 2), 2);
        due("find(4, 3)", x.find(4, 3), 9);
        due("find(4, 10)", x.find(4, 10), -2);
        due("find(7, 2)", x.find(7, 2), 15);
        due("find(7, 15)", x.find(7, 15), 15);
        due("find(9, 15)", x.find(9, 15), -2);
        due("find(MIN, 0)", x.find(MIN, 0), 3);
        due("find(MAX, 0)", x.find(MAX, 0), 13);
        due("find(-1, 0)", x.find(-1, 0), 8);
        due("find(77, 0)", x.find(77, 0), -2);
        for (int from : BAD_BLOCKS) {
            due("find(4, " + from + ")", x.find(4, from), -1);
            due("find(77, " + from + ")", x.find(77, from), -1);
        }
    }

    private static void promise12Below() {
        sentence("Promise 12");
        PathOram x = holding(4, 7, 4, MIN, 9, 9, 9, 0, -1, 4, 1, 2, 3, MAX, 9, 7);
        due("below(MIN)", x.below(MIN), 0);
        due("below(MIN + 1)", x.below(MIN + 1), 1);
        due("below(-1)", x.below(-1), 1);
        due("below(0)", x.below(0), 2);
        due("below(4)", x.below(4), 6);
        due("below(5)", x.below(5), 9);
        due("below(9)", x.below(9), 11);
        due("below(10)", x.below(10), 15);
        due("below(MAX)", x.below(MAX), 15);
        PathOram y = new PathOram(0);
        due("new: below(0)", y.below(0), 0);
        due("new: below(1)", y.below(1), 16);
    }

    private static void promise13Ranked() {
        sentence("Promise 13");
        PathOram x = holding(4, 7, 4, MIN, 9, 9, 9, 0, -1, 4, 1, 2, 3, MAX, 9, 7);
        int[] want = {MIN, -1, 0, 1, 2, 3, 4, 4, 4, 7, 7, 9, 9, 9, 9, MAX};
        for (int k = 0; k < 16; k++) {
            due("ranked(" + k + ")", x.ranked(k), want[k]);
        }
        PathOram low = new PathOram(0);
        low.fill(0, 16, MIN, 0);
        PathOram down = new PathOram(0);
        down.fill(0, 16, -1, -1);
        for (int k = 0; k < 16; k++) {
            due("all MIN: ranked(" + k + ")", low.ranked(k), MIN);
            due("descending: ranked(" + k + ")", down.ranked(k), k - 16);
        }
        for (int k : BAD_BLOCKS) {
            due("ranked(" + k + ")", x.ranked(k), 0);
        }
    }

    private static void promise14Save() {
        sentence("Promise 14");
        PathOram x = filled();
        due("save(0)", x.save(0), 0);
        x.write(0, 1);
        x.write(15, 2);
        due("save(1)", x.save(1), 0);
        x.fill(0, 16, -1, -1);
        for (int snapshot : BAD_SNAPSHOTS) {
            due("save(" + snapshot + ")", x.save(snapshot), -1);
        }
        dueBlocks("save", x, series(-1, -1));
        x.load(0);
        dueBlocks("saved in 0", x, series(100, 1));
        x.load(1);
        int[] want = series(100, 1);
        want[0] = 1;
        want[15] = 2;
        dueBlocks("saved in 1", x, want);
        due("save(0) again", x.save(0), 0);
        due("differing(0) after saving again", x.differing(0), 0);
    }

    private static void promise15Load() {
        sentence("Promise 15");
        PathOram x = filled();
        x.save(1);
        due("load(1) unchanged", x.load(1), 0);
        x.write(0, 0);
        x.write(8, 108);
        x.write(15, 0);
        for (int snapshot : BAD_SNAPSHOTS) {
            due("load(" + snapshot + ")", x.load(snapshot), -1);
        }
        due("load refused: read(0)", x.read(0), 0);
        due("load(1)", x.load(1), 2);
        dueBlocks("load(1)", x, series(100, 1));
        due("load(0)", x.load(0), 16);
        dueBlocks("load(0)", x, new int[16]);
        due("load(0) again", x.load(0), 0);
        x.write(4, 104);
        due("load(1) with one alike", x.load(1), 15);
        x.write(3, 5);
        due("a snapshot stays as it was: differing(1)", x.differing(1), 1);
    }

    private static void promise16Differing() {
        sentence("Promise 16");
        PathOram x = filled();
        due("differing(0)", x.differing(0), 16);
        due("differing(1)", x.differing(1), 16);
        x.save(1);
        due("differing(1) after save", x.differing(1), 0);
        due("differing(0) after save(1)", x.differing(0), 16);
        x.exchange(0, 15);
        due("differing(1) after exchange", x.differing(1), 2);
        x.write(5, 0);
        due("differing(0) after write", x.differing(0), 15);
        due("differing(1) after write", x.differing(1), 3);
        for (int snapshot : BAD_SNAPSHOTS) {
            due("differing(" + snapshot + ")", x.differing(snapshot), -1);
        }
        due("a question changes nothing: differing(1)", x.differing(1), 3);
        due("a question changes nothing: read(0)", x.read(0), 115);
    }

    private static void promise17Audit() {
        sentence("Promise 17");
        for (int seed : SEEDS) {
            PathOram x = new PathOram(seed);
            for (int i = 0; i < 60; i++) {
                due("audit() after write " + i, x.write(i * 7 & 15, i) + x.audit(), 0);
                due("audit() after read " + i, x.read(i * 7 & 15) - i + x.audit(), 0);
                due("audit() after rotate " + i, x.rotate(0) + x.audit(), 0);
            }
        }
    }

    private static void promise18Touched() {
        sentence("Promise 18");
        PathOram x = new PathOram(11);
        due("new: touched()", x.touched(), 0);
        x.write(3, 4);
        due("touched() after write", x.touched(), 4);
        x.fill(0, 16, 1, 1);
        due("touched() after fill", x.touched(), 4);
        x.sum();
        due("touched() after sum", x.touched(), 4);
        x.audit();
        due("touched() after audit", x.touched(), 4);
    }

    private static void promise19RefusedCallsAccessNothing() {
        sentence("Promise 19");
        dueRefused("read(16)", x -> x.read(16), 0);
        dueRefused("add(16, 1)", x -> x.add(16, 1), 0);
        dueRefused("ranked(16)", x -> x.ranked(16), 0);
    }
}
