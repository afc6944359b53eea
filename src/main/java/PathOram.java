/**
 * Sixteen numbered blocks behind a shuffled store.
 *
 * The store is a Path ORAM: a binary tree of buckets, a leaf drawn for every block, and a stash.
 * A block lies in the stash or in a bucket on the way from the root to its leaf. Every access
 * draws a new leaf for the block, so that the buckets touched do not tell which block was meant.
 */
public final class PathOram {
    private static final int BLOCKS = 16;
    private static final int SNAPSHOTS = 2;

    private static final int LEAVES = 8;
    private static final int LEAF_LEVEL = 3;
    private static final int BUCKETS = 2 * LEAVES - 1;
    private static final int SLOTS_PER_BUCKET = 4;
    private static final int SLOTS = BUCKETS * SLOTS_PER_BUCKET;
    private static final int EMPTY = -1;

    private static final int SHUFFLE_FACTOR = 1664525;
    private static final int SHUFFLE_STEP = 1013904223;
    private static final int SHIFT_TO_LEAF = 32 - LEAF_LEVEL;

    private final int[] slotBlock = new int[SLOTS];
    private final int[] slotValue = new int[SLOTS];
    private final int[] leafOf = new int[BLOCKS];

    // The stash has a place for every block, so it cannot overflow.
    private final boolean[] inStash = new boolean[BLOCKS];
    private final int[] stashValue = new int[BLOCKS];

    private final int[] saved = new int[SNAPSHOTS * BLOCKS];
    private final int[] gathered = new int[BLOCKS];

    private int shuffle;
    private int bucketsTouched;

    public PathOram(int seed) {
        shuffle = seed;
        for (int slot = 0; slot < SLOTS; slot++) {
            slotBlock[slot] = EMPTY;
        }
        for (int b = 0; b < BLOCKS; b++) {
            leafOf[b] = drawLeaf();
            inStash[b] = true;
        }
    }

    public void stir(int seed) {
        shuffle = seed;
    }

    public int read(int b) {
        if (!isBlock(b)) {
            return 0;
        }
        return fetch(b);
    }

    public int write(int b, int value) {
        if (!isBlock(b)) {
            return -1;
        }
        store(b, value);
        return 0;
    }

    public int add(int b, int delta) {
        if (!isBlock(b)) {
            return 0;
        }
        int value = fetch(b) + delta;
        store(b, value);
        return value;
    }

    public int exchange(int b, int c) {
        if (!isBlock(b) || !isBlock(c)) {
            return -1;
        }
        int ofB = fetch(b);
        int ofC = fetch(c);
        store(b, ofC);
        store(c, ofB);
        return 0;
    }

    public int copy(int from, int to) {
        if (!isBlock(from) || !isBlock(to)) {
            return -1;
        }
        int value = fetch(from);
        store(to, value);
        return 0;
    }

    public int fill(int b, int count, int value, int step) {
        if (count < 1 || count > BLOCKS) {
            return -1;
        }
        if (b < 0 || b > BLOCKS - count) {
            return -2;
        }
        for (int i = 0; i < count; i++) {
            store(b + i, value + i * step);
        }
        return 0;
    }

    public int rotate(int shift) {
        gather();
        for (int k = 0; k < BLOCKS; k++) {
            // BLOCKS is a power of two: the mask gives the remainder for negative sums as well.
            int source = (k + shift) & (BLOCKS - 1);
            store(k, gathered[source]);
        }
        return 0;
    }

    public int sum() {
        int total = 0;
        for (int b = 0; b < BLOCKS; b++) {
            total += fetch(b);
        }
        return total;
    }

    public int find(int value, int from) {
        if (!isBlock(from)) {
            return -1;
        }
        for (int b = from; b < BLOCKS; b++) {
            if (fetch(b) == value) {
                return b;
            }
        }
        return -2;
    }

    public int below(int value) {
        gather();
        return countLess(value);
    }

    public int ranked(int k) {
        if (k < 0 || k >= BLOCKS) {
            return 0;
        }
        gather();
        // The k-th least is the greatest held value that has at most k lesser ones.
        int best = gathered[0];
        boolean found = false;
        for (int b = 0; b < BLOCKS; b++) {
            int value = gathered[b];
            if (countLess(value) <= k && (!found || value > best)) {
                best = value;
                found = true;
            }
        }
        return best;
    }

    public int save(int snapshot) {
        if (!isSnapshot(snapshot)) {
            return -1;
        }
        for (int b = 0; b < BLOCKS; b++) {
            saved[snapshot * BLOCKS + b] = fetch(b);
        }
        return 0;
    }

    public int load(int snapshot) {
        if (!isSnapshot(snapshot)) {
            return -1;
        }
        int changed = countUnlike(snapshot);
        for (int b = 0; b < BLOCKS; b++) {
            store(b, saved[snapshot * BLOCKS + b]);
        }
        return changed;
    }

    public int differing(int snapshot) {
        if (!isSnapshot(snapshot)) {
            return -1;
        }
        return countUnlike(snapshot);
    }

    public int audit() {
        int faulty = 0;
        for (int b = 0; b < BLOCKS; b++) {
            if (!isKeptWell(b)) {
                faulty++;
            }
        }
        return faulty;
    }

    public int touched() {
        return bucketsTouched;
    }

    private static boolean isBlock(int b) {
        return b >= 0 && b < BLOCKS;
    }

    private static boolean isSnapshot(int snapshot) {
        return snapshot >= 0 && snapshot < SNAPSHOTS;
    }

    private void gather() {
        for (int b = 0; b < BLOCKS; b++) {
            gathered[b] = fetch(b);
        }
    }

    private int countLess(int value) {
        int count = 0;
        for (int b = 0; b < BLOCKS; b++) {
            if (gathered[b] < value) {
                count++;
            }
        }
        return count;
    }

    private int countUnlike(int snapshot) {
        int count = 0;
        for (int b = 0; b < BLOCKS; b++) {
            if (fetch(b) != saved[snapshot * BLOCKS + b]) {
                count++;
            }
        }
        return count;
    }

    private int fetch(int b) {
        int leaf = openPathOf(b);
        int value = stashValue[b];
        closePath(leaf);
        return value;
    }

    private void store(int b, int value) {
        int leaf = openPathOf(b);
        stashValue[b] = value;
        closePath(leaf);
    }

    /** Brings block b into the stash with all that lies on its path; answers the path's leaf. */
    private int openPathOf(int b) {
        int leaf = leafOf[b];
        bucketsTouched = 0;
        for (int level = 0; level <= LEAF_LEVEL; level++) {
            int bucket = bucketAt(leaf, level);
            emptyBucket(bucket);
            bucketsTouched++;
        }
        leafOf[b] = drawLeaf();
        return leaf;
    }

    /** Puts back what fits, the leaf first: deep buckets fit few blocks, the root fits all. */
    private void closePath(int leaf) {
        for (int level = LEAF_LEVEL; level >= 0; level--) {
            refillBucket(leaf, level);
        }
    }

    private void emptyBucket(int bucket) {
        int first = bucket * SLOTS_PER_BUCKET;
        for (int slot = first; slot < first + SLOTS_PER_BUCKET; slot++) {
            int b = slotBlock[slot];
            if (isBlock(b)) {
                stashValue[b] = slotValue[slot];
                inStash[b] = true;
                slotBlock[slot] = EMPTY;
                slotValue[slot] = 0;
            }
        }
    }

    private void refillBucket(int leaf, int level) {
        int bucket = bucketAt(leaf, level);
        int slot = bucket * SLOTS_PER_BUCKET;
        int end = slot + SLOTS_PER_BUCKET;
        for (int b = 0; b < BLOCKS && slot < end; b++) {
            if (inStash[b] && bucketAt(leafOf[b], level) == bucket) {
                slotBlock[slot] = b;
                slotValue[slot] = stashValue[b];
                // No copy stays behind: a block has one home, and its value lies there alone.
                stashValue[b] = 0;
                inStash[b] = false;
                slot++;
            }
        }
    }

    /** Buckets are numbered level by level: the root is 0, the leaves are the last LEAVES ones. */
    private static int bucketAt(int leaf, int level) {
        return ((LEAVES + leaf) >> (LEAF_LEVEL - level)) - 1;
    }

    private static boolean isOnPath(int bucket, int leaf) {
        for (int level = 0; level <= LEAF_LEVEL; level++) {
            if (bucketAt(leaf, level) == bucket) {
                return true;
            }
        }
        return false;
    }

    private boolean isKeptWell(int b) {
        int copies = inStash[b] ? 1 : 0;
        for (int slot = 0; slot < SLOTS; slot++) {
            if (slotBlock[slot] == b) {
                copies++;
                if (!isOnPath(slot / SLOTS_PER_BUCKET, leafOf[b])) {
                    return false;
                }
            }
        }
        return copies == 1;
    }

    /** The upper bits make the leaf: the lower ones of such a sequence repeat after a few draws. */
    private int drawLeaf() {
        shuffle = shuffle * SHUFFLE_FACTOR + SHUFFLE_STEP;
        return shuffle >>> SHIFT_TO_LEAF;
    }
}
