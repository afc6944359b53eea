import java.lang.reflect.Field;
import java.util.Arrays;

/**
 * Looks into the inner store. From outside, audit() is always 0 and touched() always 4, which
 * constants would answer too; here the store is damaged, to see that audit() really counts.
 */
public final class StoreTest {
    private static final int EMPTY = -1;
    private static final int SLOTS_PER_BUCKET = 4;

    private static int wrong = 0;

    private static void due(String what, int got, int want) {
        if (got != want) {
            wrong++;
            System.out.println(what + " is " + got + ", due is " + want);
        }
    }

    private static Object inner(PathOram x, String name) throws ReflectiveOperationException {
        Field field = PathOram.class.getDeclaredField(name);
        field.setAccessible(true);
        return field.get(x);
    }

    private static PathOram used() {
        PathOram x = new PathOram(1);
        x.fill(0, 16, 1, 1);
        x.sum();
        return x;
    }

    private static int slotWith(int[] slotBlock, boolean held) {
        // From the end, where the leaves are: a block at the root is never out of place.
        for (int slot = slotBlock.length - 1; slot >= 0; slot--) {
            if ((slotBlock[slot] != EMPTY) == held) {
                return slot;
            }
        }
        throw new IllegalStateException("no such slot");
    }

    private static void auditCountsLostBlocks() throws ReflectiveOperationException {
        PathOram x = used();
        int[] slotBlock = (int[]) inner(x, "slotBlock");
        slotBlock[slotWith(slotBlock, true)] = EMPTY;
        due("audit() with a block lost", x.audit(), 1);
        Arrays.fill(slotBlock, EMPTY);
        Arrays.fill((boolean[]) inner(x, "inStash"), false);
        due("audit() with all blocks lost", x.audit(), 16);
    }

    private static void auditCountsBlocksHeldTwice() throws ReflectiveOperationException {
        PathOram x = used();
        int[] slotBlock = (int[]) inner(x, "slotBlock");
        int block = slotBlock[slotWith(slotBlock, true)];
        ((boolean[]) inner(x, "inStash"))[block] = true;
        due("audit() with a block in the tree and the stash", x.audit(), 1);

        PathOram y = used();
        int[] slots = (int[]) inner(y, "slotBlock");
        int root = 0;
        while (root < SLOTS_PER_BUCKET - 1 && slots[root] != EMPTY) {
            root++;
        }
        int lost = slots[root] == EMPTY ? 0 : 1;
        slots[root] = slots[slotWith(slots, true)];
        due("audit() with a block twice in the tree", y.audit(), 1 + lost);
    }

    private static void auditCountsBlocksOutOfPlace() throws ReflectiveOperationException {
        PathOram x = used();
        int[] slotBlock = (int[]) inner(x, "slotBlock");
        int[] leafOf = (int[]) inner(x, "leafOf");
        int slot = slotWith(slotBlock, true);
        leafOf[slotBlock[slot]] ^= 4;
        due("audit() with a block out of place", x.audit(), 1);
        leafOf[slotBlock[slot]] ^= 4;
        due("audit() with the block in place again", x.audit(), 0);
    }

    /** Every block fits the root, so after an access none waits in the stash beside an empty root slot. */
    private static void dueTidy(String when, PathOram x) throws ReflectiveOperationException {
        int[] slotBlock = (int[]) inner(x, "slotBlock");
        int[] slotValue = (int[]) inner(x, "slotValue");
        boolean[] inStash = (boolean[]) inner(x, "inStash");
        int[] stashValue = (int[]) inner(x, "stashValue");
        int waiting = 0;
        for (int b = 0; b < inStash.length; b++) {
            waiting += inStash[b] ? 1 : 0;
            due(when + ": a value left in the stash", inStash[b] ? 0 : stashValue[b], 0);
        }
        for (int slot = 0; slot < slotBlock.length; slot++) {
            boolean empty = slotBlock[slot] == EMPTY;
            due(when + ": a value left in slot " + slot, empty ? slotValue[slot] : 0, 0);
            due(when + ": blocks that the root did not take", empty && slot < SLOTS_PER_BUCKET ? waiting : 0, 0);
        }
    }

    private static void accessesMoveBlocksIntoTheTree() throws ReflectiveOperationException {
        for (int seed = -20; seed < 20; seed++) {
            PathOram x = new PathOram(seed);
            x.read(seed & 15);
            dueTidy("read on a new object", x);
            for (int i = 0; i < 100; i++) {
                x.write(i * 7 & 15, i + 1);
                dueTidy("write " + i, x);
                x.read(i * 5 & 15);
                dueTidy("read " + i, x);
            }
        }
    }

    private static void seedStartsTheShuffling() throws ReflectiveOperationException {
        int[] leaves = (int[]) inner(new PathOram(77), "leafOf");
        int[] same = (int[]) inner(new PathOram(77), "leafOf");
        int[] other = (int[]) inner(new PathOram(78), "leafOf");
        due("the same seed gives the same first leaves", Arrays.equals(leaves, same) ? 1 : 0, 1);
        due("another seed gives others", Arrays.equals(leaves, other) ? 1 : 0, 0);
    }

    private static void accessesDrawNewLeaves() throws ReflectiveOperationException {
        PathOram x = used();
        int[] leafOf = (int[]) inner(x, "leafOf");
        boolean[] seen = new boolean[8];
        for (int i = 0; i < 200; i++) {
            x.read(3);
            seen[leafOf[3]] = true;
        }
        for (int leaf = 0; leaf < 8; leaf++) {
            due("leaf " + leaf + " drawn in 200 reads", seen[leaf] ? 1 : 0, 1);
        }
    }

    private static void stirStartsTheShufflingAnew() throws ReflectiveOperationException {
        PathOram x = used();
        int[] leafOf = (int[]) inner(x, "leafOf");
        x.stir(77);
        x.sum();
        int[] first = leafOf.clone();
        x.stir(77);
        x.sum();
        due("the same seed draws the same leaves", Arrays.equals(first, leafOf) ? 1 : 0, 1);
        x.stir(78);
        x.sum();
        due("another seed draws others", Arrays.equals(first, leafOf) ? 1 : 0, 0);
    }

    public static void main(String[] args) throws ReflectiveOperationException {
        auditCountsLostBlocks();
        auditCountsBlocksHeldTwice();
        auditCountsBlocksOutOfPlace();
        accessesMoveBlocksIntoTheTree();
        seedStartsTheShuffling();
        accessesDrawNewLeaves();
        stirStartsTheShufflingAnew();
        System.out.println(wrong == 0 ? "the store is as due" : wrong + " things in the store are not as due");
        if (wrong != 0) {
            System.exit(1);
        }
    }
}
