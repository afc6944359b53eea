import java.util.Arrays;
import java.util.Random;

/** Long mixed runs of calls, compared with a model that holds the blocks in a plain array. */
public final class ModelTest {
    private static final int RUNS = 2000;
    private static final int CALLS = 512;

    private static final class Model {
        private int[] blocks = new int[16];
        private final int[][] snapshots = new int[2][16];
        private int touched = 0;

        private int answer(int method, int a, int b, int c, int d) {
            switch (method) {
                case 0: return isBlock(a) ? seen(blocks[a]) : 0;
                case 1: return isBlock(a) ? write(a, b) : -1;
                case 2: return isBlock(a) ? seen(blocks[a] += b) : 0;
                case 3: return isBlock(a) && isBlock(b) ? exchange(a, b) : -1;
                case 4: return isBlock(a) && isBlock(b) ? write(b, blocks[a]) : -1;
                case 5: return fill(a, b, c, d);
                case 6: return rotate(a);
                case 7: return seen(Arrays.stream(blocks).sum());
                case 8: return find(a, b);
                case 9: return seen((int) Arrays.stream(blocks).filter(v -> v < a).count());
                case 10: return isBlock(a) ? seen(Arrays.stream(blocks).sorted().toArray()[a]) : 0;
                case 11: return isSnapshot(a) ? save(a) : -1;
                case 12: return isSnapshot(a) ? load(a) : -1;
                case 13: return isSnapshot(a) ? seen(differing(a)) : -1;
                case 14: return 0;
                case 15: return touched;
                default: return 0;
            }
        }

        private static boolean isBlock(int b) {
            return b >= 0 && b <= 15;
        }

        private static boolean isSnapshot(int s) {
            return s == 0 || s == 1;
        }

        private int seen(int answer) {
            touched = 4;
            return answer;
        }

        private int write(int b, int value) {
            blocks[b] = value;
            return seen(0);
        }

        private int exchange(int b, int c) {
            int held = blocks[b];
            blocks[b] = blocks[c];
            blocks[c] = held;
            return seen(0);
        }

        private int fill(int b, int count, int value, int step) {
            if (count < 1 || count > 16) {
                return -1;
            }
            if (b < 0 || b > 16 - count) {
                return -2;
            }
            int next = value;
            for (int k = b; k < b + count; k++) {
                blocks[k] = next;
                next += step;
            }
            return seen(0);
        }

        private int rotate(int shift) {
            int[] before = blocks.clone();
            for (int k = 0; k < 16; k++) {
                blocks[k] = before[(int) Math.floorMod((long) k + shift, 16L)];
            }
            return seen(0);
        }

        private int find(int value, int from) {
            if (!isBlock(from)) {
                return -1;
            }
            touched = 4;
            for (int k = from; k < 16; k++) {
                if (blocks[k] == value) {
                    return k;
                }
            }
            return -2;
        }

        private int save(int s) {
            snapshots[s] = blocks.clone();
            return seen(0);
        }

        private int load(int s) {
            int changed = differing(s);
            blocks = snapshots[s].clone();
            return seen(changed);
        }

        private int differing(int s) {
            int count = 0;
            for (int k = 0; k < 16; k++) {
                count += blocks[k] != snapshots[s][k] ? 1 : 0;
            }
            return count;
        }
    }

    private static final String[] NAMES = {"read", "write", "add", "exchange", "copy", "fill", "rotate", "sum",
        "find", "below", "ranked", "save", "load", "differing", "audit", "touched", "stir"};

    private static int ask(PathOram x, int method, int a, int b, int c, int d) {
        switch (method) {
            case 0: return x.read(a);
            case 1: return x.write(a, b);
            case 2: return x.add(a, b);
            case 3: return x.exchange(a, b);
            case 4: return x.copy(a, b);
            case 5: return x.fill(a, b, c, d);
            case 6: return x.rotate(a);
            case 7: return x.sum();
            case 8: return x.find(a, b);
            case 9: return x.below(a);
            case 10: return x.ranked(a);
            case 11: return x.save(a);
            case 12: return x.load(a);
            case 13: return x.differing(a);
            case 14: return x.audit();
            case 15: return x.touched();
            default: x.stir(a); return 0;
        }
    }

    private static final String ARGUMENT_KINDS = "b bv bv bb bb bcvv v - vb v b s s s - - v";

    /** Mostly good arguments, with the ones just outside and far outside among them. */
    private static int draw(Random random, char kind) {
        if (random.nextInt(40) == 0) {
            return random.nextInt();
        }
        switch (kind) {
            case 'b': return random.nextInt(random.nextInt(4) == 0 ? 18 : 16) - random.nextInt(10) / 9;
            case 'c': return random.nextInt(random.nextInt(3) == 0 ? 18 : 6);
            case 's': return random.nextInt(10) == 0 ? random.nextInt(4) - 1 : random.nextInt(2);
            default: return random.nextInt(3) == 0 ? random.nextInt() : random.nextInt(9) - 3;
        }
    }

    private static boolean runAgrees(int run) {
        Random random = new Random(run);
        int seed = run < 10 ? run - 5 : random.nextInt();
        PathOram x = new PathOram(seed);
        Model model = new Model();
        String[] kinds = ARGUMENT_KINDS.split(" ");
        for (int call = 0; call < CALLS; call++) {
            int method = random.nextInt(NAMES.length);
            int[] v = new int[4];
            for (int i = 0; i < kinds[method].length(); i++) {
                v[i] = draw(random, kinds[method].charAt(i));
            }
            int want = model.answer(method, v[0], v[1], v[2], v[3]);
            int got = ask(x, method, v[0], v[1], v[2], v[3]);
            if (got != want) {
                System.out.println("run " + run + ", call " + call + ": " + NAMES[method] + Arrays.toString(v)
                    + " answered " + got + ", due is " + want);
                return false;
            }
        }
        return true;
    }

    public static void main(String[] args) {
        int wrong = 0;
        for (int run = 0; run < RUNS; run++) {
            wrong += runAgrees(run) ? 0 : 1;
        }
        System.out.println(wrong == 0 ? "all runs agree with the model" : wrong + " runs do not agree");
        if (wrong != 0) {
            System.exit(1);
        }
    }
}
