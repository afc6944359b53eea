import java.lang.reflect.Field;
import java.util.Arrays;

/**
 * Looks into the inner store. From outside, audit() is always 0 and touched() always 4, which
 * constants would answer too; here the store is damaged, to see that audit() really counts.
 */
public final class StoreTest {
    private static final int EMPTY = -1;
    private static final int SLOTS_PER_BUCKET = 4;

    private static int wrong = 0;

    private static void due(String what, int got, int want) {
        if (got != want) {
            wrong++;
            System.out.println(what + " is " + got + ", due is " + want);
        }
    }

    private static Object inner(PathOram x, String name) throws ReflectiveOperationException {
        Field field = PathOram.class.getDeclaredField(name);
        field.setAccessible(true);
        return field.get(x);
    }

    private static PathOram used() {
        PathOram x = new PathOram(1);
        x.fill(0, 16, 1, 1);
        x.sum();
        return x;
    }

    private static int slotWith(int[] slotBlock, boolean held) {
        // From the end, where the leaves are: a block at the root is never out of place.
        for (int slot = slotBlock.length - 1; slot >= 0; slot--) {
            if ((slotBlock[slot] != EMPTY) == held) {
                return slot;
            }
        }
        throw new IllegalStateException("no such slot");
    }

    private static void auditCountsLostBlocks() throws ReflectiveOperationException {
        PathOram x = used();
        int[] slotBlock = (int[]) inner(x, "slotBlock");
        slotBlock[slotWith(slotBlock, true)] = EMPTY;
        due("audit() with a block lost", x.audit(), 1);
        Arrays.fill(slotBlock, EMPTY);
        Arrays.fill((boolean[]) inner(x, "inStash"), false);
        due("audit() with all blocks lost", x.audit(), 16);
    }

    private static void auditCountsBlocksHeldTwice() throws ReflectiveOperationException {
        PathOram x = used();
        int[] slotBlock = (int[]) inner(x, "slotBlock");
        int block = slotBlock[slotWith(slotBlock, true)];
        ((boolean[]) inner(x, "inStash"))[block] = true;
        due("audit() with a block in the tree and the stash", x.audit(), 1);

        PathOram y = used();
        int[] slots = (int[]) inner(y, "slotBlock");
        int root = 0;
        while (root < SLOTS_PER_BUCKET - 1 && slots[root] != EMPTY) {
            root++;
        }
        int lost = slots[root] == EMPTY ? 0 : 1;
        slots[root] = slots[slotWith(slots, true)];
        due("audit() with a block twice in the tree", y.audit(), 1 + lost);
    }

    private static void auditCountsBlocksOutOfPlace() throws ReflectiveOperationException {
        PathOram x = used();
        int[] slotBlock = (int[]) inner(x, "slotBlock");
        int[] leafOf = (int[]) inner(x, "leafOf");
        int slot = slotWith(slotBlock, true);
        leafOf[slotBlock[slot]] ^= 4;
        due("audit() with a block out of place", x.audit(), 1);
        leafOf[slotBlock[slot]] ^= 4;
        due("audit() with the block in place again", x.audit(), 0);
    }

    private static void accessesMoveBlocksIntoTheTree() throws ReflectiveOperationException {
        PathOram x = used();
        int held = 0;
        for (int block : (int[]) inner(x, "slotBlock")) {
            held += block == EMPTY ? 0 : 1;
        }
        if (held < 8) {
            due("the number of blocks in the tree, few", held, 8);
        }
    }

    private static void accessesDrawNewLeaves() throws ReflectiveOperationException {
        PathOram x = used();
        int[] leafOf = (int[]) inner(x, "leafOf");
        boolean[] seen = new boolean[8];
        for (int i = 0; i < 200; i++) {
            x.read(3);
            seen[leafOf[3]] = true;
        }
        for (int leaf = 0; leaf < 8; leaf++) {
            due("leaf " + leaf + " drawn in 200 reads", seen[leaf] ? 1 : 0, 1);
        }
    }

    private static void stirStartsTheShufflingAnew() throws ReflectiveOperationException {
        PathOram x = used();
        int[] leafOf = (int[]) inner(x, "leafOf");
        x.stir(77);
        x.sum();
        int[] first = leafOf.clone();
        x.stir(77);
        x.sum();
        due("the same seed draws the same leaves", Arrays.equals(first, leafOf) ? 1 : 0, 1);
        x.stir(78);
        x.sum();
        due("another seed draws others", Arrays.equals(first, leafOf) ? 1 : 0, 0);
    }

    public static void main(String[] args) throws ReflectiveOperationException {
        auditCountsLostBlocks();
        auditCountsBlocksHeldTwice();
        auditCountsBlocksOutOfPlace();
        accessesMoveBlocksIntoTheTree();
        accessesDrawNewLeaves();
        stirStartsTheShufflingAnew();
        System.out.println(wrong == 0 ? "the store is as due" : wrong + " things in the store are not as due");
        if (wrong != 0) {
            System.exit(1);
        }
    }
}
