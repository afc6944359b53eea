/** The document's sections "What it is" and "Terms": a test for each sentence, and runs of 512 calls. */
public final class TermsTest extends Checks {
    private static final int CALLS = 512;

    public static void main(String[] args) {
        blocksAreSixteenAndZeroAtFirst();
        snapshotsAreTwoAndZeroAtFirst();
        callsWithoutAnotherAnswerAnswerZero();
        questionsChangeNothing();
        refusedCallsChangeNothing();
        goodBlockNumbers();
        goodSnapshotNumbers();
        everyMethodAnswersAsThe512thCall();
        everyChangeHoldsUpToThe512thCall();
        oneCall512Times();
        refused512Times();
        laterCallsEnd();
        end();
    }

    private static void blocksAreSixteenAndZeroAtFirst() {
        sentence("Terms: BLOCKS are numbered 0 .. 15; each holds an int, 0 at first");
        dueNewState("no call yet", new PathOram(1), 0);
        for (int b = 0; b < 16; b++) {
            for (int value : new int[] {MIN, -1, 1, MAX}) {
                PathOram x = new PathOram(b);
                x.write(b, value);
                dueBlocks("block " + b + " alone", x, with(new int[16], b, value));
            }
        }
    }

    private static void snapshotsAreTwoAndZeroAtFirst() {
        sentence("Terms: two SNAPSHOTS, 0 and 1; each holds an int for every block, 0 at first");
        dueState("none saved", holding(USED), 4, USED, new int[16], new int[16]);
        for (int b = 0; b < 16; b++) {
            int[] low = with(new int[16], b, MIN);
            int[] high = with(new int[16], b, MAX);
            PathOram x = holding(low);
            x.save(0);
            dueState("0 saved, block " + b, x, 4, low, low, new int[16]);
            PathOram y = holding(high);
            y.save(1);
            dueState("1 saved, block " + b, y, 4, high, new int[16], high);
            PathOram z = holding(low);
            z.save(0);
            z.write(b, MAX);
            z.save(1);
            dueState("both saved, block " + b, z, 4, high, low, high);
        }
    }

    private static void callsWithoutAnotherAnswerAnswerZero() {
        sentence("Terms: Calls that have no other answer of interest answer 0");
        for (PathOram x : new PathOram[] {new PathOram(0), used(), holding(series(MIN, 0))}) {
            due("write(15, 9)", x.write(15, 9), 0);
            due("exchange(15, 0)", x.exchange(15, 0), 0);
            due("copy(0, 3)", x.copy(0, 3), 0);
            due("fill(3, 3, 8, 8)", x.fill(3, 3, 8, 8), 0);
            due("rotate(3)", x.rotate(3), 0);
            due("rotate(0)", x.rotate(0), 0);
            due("save(0)", x.save(0), 0);
            due("save(1)", x.save(1), 0);
        }
    }

    /** Asked twice, the question answers the same; the state is as it was, but for touched(). */
    private static void dueNoChange(String name, Call question, int touchedOnANew) {
        PathOram x = new PathOram(2);
        int first = question.on(x);
        due("new: " + name + " again", question.on(x), first);
        dueNewState("after " + name, x, touchedOnANew);
        PathOram y = used();
        first = question.on(y);
        due("used: " + name + " again", question.on(y), first);
        dueUsedState("after " + name, y);
    }

    private static void questionsChangeNothing() {
        sentence("Terms: No question changes anything that a later answer shows (but touched())");
        for (int b = 0; b < 16; b++) {
            int good = b;
            dueNoChange("read(" + b + ")", x -> x.read(good), 4);
            dueNoChange("find(0, " + b + ")", x -> x.find(0, good), 4);
            dueNoChange("find(107, " + b + ")", x -> x.find(107, good), 4);
            dueNoChange("ranked(" + b + ")", x -> x.ranked(good), 4);
        }
        for (int value : new int[] {MIN, 0, 1, 108, MAX}) {
            dueNoChange("below(" + value + ")", x -> x.below(value), 4);
        }
        dueNoChange("sum()", x -> x.sum(), 4);
        dueNoChange("differing(0)", x -> x.differing(0), 4);
        dueNoChange("differing(1)", x -> x.differing(1), 4);
        dueNoChange("audit()", x -> x.audit(), 0);
        dueNoChange("touched()", x -> x.touched(), 0);
    }

    /** Every call that a bad number makes a refused one; 10 calls for a bad block, 3 for a snapshot. */
    private static void callAllRefused(PathOram x) {
        for (int bad : new int[] {MIN, -1, 16, MAX}) {
            due("read(" + bad + ")", x.read(bad), 0);
            due("write(" + bad + ", 1)", x.write(bad, 1), -1);
            due("add(" + bad + ", 1)", x.add(bad, 1), 0);
            due("exchange(" + bad + ", 1)", x.exchange(bad, 1), -1);
            due("exchange(1, " + bad + ")", x.exchange(1, bad), -1);
            due("copy(" + bad + ", 1)", x.copy(bad, 1), -1);
            due("copy(1, " + bad + ")", x.copy(1, bad), -1);
            due("fill(" + bad + ", 1, 1, 1)", x.fill(bad, 1, 1, 1), -2);
            due("find(0, " + bad + ")", x.find(0, bad), -1);
            due("ranked(" + bad + ")", x.ranked(bad), 0);
        }
        for (int bad : new int[] {MIN, -1, 0, 17, MAX}) {
            due("fill(0, " + bad + ", 1, 1)", x.fill(0, bad, 1, 1), -1);
        }
        for (int bad : new int[] {MIN, -1, 2, MAX}) {
            due("save(" + bad + ")", x.save(bad), -1);
            due("load(" + bad + ")", x.load(bad), -1);
            due("differing(" + bad + ")", x.differing(bad), -1);
        }
    }

    private static void refusedCallsChangeNothing() {
        sentence("Terms: A refused call changes nothing");
        PathOram x = new PathOram(6);
        callAllRefused(x);
        dueNewState("after all refused calls", x, 0);
        PathOram y = used();
        callAllRefused(y);
        callAllRefused(y);
        dueUsedState("after all refused calls", y);
    }

    private static void goodBlockNumbers() {
        sentence("Terms: a block's number is good if it is 0 .. 15");
        for (int b = -40; b <= 40; b++) {
            boolean good = b >= 0 && b <= 15;
            PathOram x = used();
            due("read(" + b + ")", x.read(b), good ? 100 + b : 0);
            due("add(" + b + ", 3)", x.add(b, 3), good ? 103 + b : 0);
            due("write(" + b + ", 5)", x.write(b, 5), good ? 0 : -1);
            due("exchange(" + b + ", 7)", x.exchange(b, 7), good ? 0 : -1);
            due("exchange(7, " + b + ")", x.exchange(7, b), good ? 0 : -1);
            due("copy(" + b + ", " + b + ")", x.copy(b, b), good ? 0 : -1);
            due("copy(7, " + b + ")", x.copy(7, b), good ? 0 : -1);
            due("copy(" + b + ", 7)", x.copy(b, 7), good ? 0 : -1);
            due("fill(" + b + ", 1, 9, 9)", x.fill(b, 1, 9, 9), good ? 0 : -2);
            due("find(9, " + b + ")", x.find(9, b), good ? b : -1);
        }
    }

    private static void goodSnapshotNumbers() {
        sentence("Terms: a snapshot's number is good if it is 0 or 1");
        for (int s = -40; s <= 40; s++) {
            boolean good = s == 0 || s == 1;
            PathOram x = used();
            due("differing(" + s + ")", x.differing(s), good ? 16 : -1);
            due("load(" + s + ")", x.load(s), good ? 16 : -1);
            due("differing(" + s + ") after load", x.differing(s), good ? 0 : -1);
            x.fill(0, 16, 5, 0);
            due("save(" + s + ")", x.save(s), good ? 0 : -1);
            due("differing(" + s + ") after save", x.differing(s), good ? 0 : -1);
        }
    }

    /** A new object after so many calls: each adds 1 to the next block, with a stir now and then. */
    private static PathOram afterCalls(int calls) {
        PathOram x = new PathOram(calls);
        for (int i = 0; i < calls; i++) {
            if (i % 16 == 15) {
                x.stir(i);
            } else {
                due("add(" + i % 16 + ", 1) as call " + (i + 1), x.add(i % 16, 1), i / 16 + 1);
            }
        }
        return x;
    }

    private static void due512th(String name, Call call, int want) {
        due("call 512: " + name, call.on(afterCalls(CALLS - 1)), want);
    }

    private static void everyMethodAnswersAsThe512thCall() {
        sentence("What it is: An object is used for at most 512 calls; each method as the last of them");
        // 511 calls leave 32 in the blocks 0 .. 14 and 0 in block 15.
        due512th("read(0)", x -> x.read(0), 32);
        due512th("read(15)", x -> x.read(15), 0);
        due512th("read(16)", x -> x.read(16), 0);
        due512th("write(15, 1)", x -> x.write(15, 1), 0);
        due512th("write(16, 1)", x -> x.write(16, 1), -1);
        due512th("add(14, MAX)", x -> x.add(14, MAX), MIN + 31);
        due512th("add(-1, 1)", x -> x.add(-1, 1), 0);
        due512th("exchange(0, 15)", x -> x.exchange(0, 15), 0);
        due512th("exchange(0, 16)", x -> x.exchange(0, 16), -1);
        due512th("copy(0, 15)", x -> x.copy(0, 15), 0);
        due512th("copy(-1, 15)", x -> x.copy(-1, 15), -1);
        due512th("fill(0, 16, 1, 1)", x -> x.fill(0, 16, 1, 1), 0);
        due512th("fill(1, 16, 1, 1)", x -> x.fill(1, 16, 1, 1), -2);
        due512th("fill(0, 17, 1, 1)", x -> x.fill(0, 17, 1, 1), -1);
        due512th("rotate(-1)", x -> x.rotate(-1), 0);
        due512th("sum()", x -> x.sum(), 480);
        due512th("find(0, 0)", x -> x.find(0, 0), 15);
        due512th("find(31, 0)", x -> x.find(31, 0), -2);
        due512th("find(0, 16)", x -> x.find(0, 16), -1);
        due512th("below(32)", x -> x.below(32), 1);
        due512th("ranked(0)", x -> x.ranked(0), 0);
        due512th("ranked(1)", x -> x.ranked(1), 32);
        due512th("ranked(16)", x -> x.ranked(16), 0);
        due512th("save(1)", x -> x.save(1), 0);
        due512th("save(2)", x -> x.save(2), -1);
        due512th("load(1)", x -> x.load(1), 15);
        due512th("load(-1)", x -> x.load(-1), -1);
        due512th("differing(0)", x -> x.differing(0), 15);
        due512th("differing(2)", x -> x.differing(2), -1);
        due512th("audit()", x -> x.audit(), 0);
        due512th("touched()", x -> x.touched(), 4);
    }

    /** The change is call 496, and the reads of all blocks are the calls 497 .. 512. */
    private static void dueUpTo512(String name, Call change, int... want) {
        PathOram x = afterCalls(CALLS - 17);
        change.on(x);
        for (int b = 0; b < 16; b++) {
            due("call " + (497 + b) + " after " + name + ": read(" + b + ")", x.read(b), want[b]);
        }
    }

    private static void everyChangeHoldsUpToThe512thCall() {
        sentence("What it is: An object is used for at most 512 calls; what a late call changes");
        int[] held = with(series(31, 0), 15, 0);
        dueUpTo512("write(15, MIN)", x -> x.write(15, MIN), with(held, 15, MIN));
        dueUpTo512("add(14, 5)", x -> x.add(14, 5), with(held, 14, 36));
        dueUpTo512("exchange(0, 15)", x -> x.exchange(0, 15), with(with(held, 0, 0), 15, 31));
        dueUpTo512("copy(15, 0)", x -> x.copy(15, 0), with(held, 0, 0));
        dueUpTo512("fill(0, 16, MAX, 1)", x -> x.fill(0, 16, MAX, 1), series(MAX, 1));
        dueUpTo512("rotate(1)", x -> x.rotate(1), with(series(31, 0), 14, 0));
        dueUpTo512("save(0)", x -> x.save(0), held);
        dueUpTo512("load(0)", x -> x.load(0), new int[16]);
        dueUpTo512("load(2)", x -> x.load(2), held);
        dueUpTo512("audit()", x -> x.audit(), held);
    }

    private static void oneCall512Times() {
        sentence("What it is: An object is used for at most 512 calls; the same call each time");
        PathOram quiet = new PathOram(1);
        PathOram sound = new PathOram(1);
        PathOram counter = new PathOram(1);
        PathOram swinging = new PathOram(1);
        for (int i = 1; i <= CALLS; i++) {
            due("touched() as call " + i, quiet.touched(), 0);
            due("audit() as call " + i, sound.audit(), 0);
            due("add(15, 1) as call " + i, counter.add(15, 1), i);
            due("add(0, MIN) as call " + i, swinging.add(0, MIN), i % 2 == 0 ? 0 : MIN);
        }
        dueAfterMany("rotate(1)", x -> x.rotate(1), USED[10]);
        dueAfterMany("rotate(-1)", x -> x.rotate(-1), USED[6]);
        dueAfterMany("exchange(0, 15)", x -> x.exchange(0, 15), USED[0]);
        dueAfterMany("save(0)", x -> x.save(0), USED[0]);
        dueAfterMany("load(0)", x -> x.load(0), USED_FIRST[0]);
        dueAfterMany("copy(1, 0)", x -> x.copy(1, 0), USED[1]);
        dueAfterMany("sum()", x -> x.sum(), USED[0]);
    }

    /** Five calls make the used object, the call is made 506 times, and the read is call 512. */
    private static void dueAfterMany(String name, Call call, int want) {
        PathOram x = used();
        for (int i = 0; i < CALLS - 6; i++) {
            call.on(x);
        }
        due("after 506 times " + name + ": read(0)", x.read(0), want);
    }

    private static void refused512Times() {
        sentence("What it is: An object is used for at most 512 calls; refused calls among them");
        PathOram x = new PathOram(12);
        // 57 refused calls each time, and 56 calls ask for the state: 512 in all.
        for (int round = 0; round < 8; round++) {
            callAllRefused(x);
        }
        dueNewState("after 456 refused calls", x, 0);
    }

    private static void laterCallsEnd() {
        sentence("LANGUAGE.md, rule 7: No call may ever throw; what calls after the 512th answer is free");
        PathOram x = new PathOram(MAX);
        for (int i = 0; i < 20 * CALLS; i++) {
            x.stir(i * i);
            x.add(i % 16, i);
            x.rotate(i);
            x.ranked(i % 16);
            x.save(i % 2);
            x.load(i % 3);
            x.audit();
        }
    }
}
