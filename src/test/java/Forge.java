import java.util.HashMap;
import java.util.Map;

/** Alters blocks so that their sums are right all the same. */
final class Forge {
    private static final int FACTOR = 374761393;
    private static final int PARTS = 1 << 18;

    private Forge() {
    }

    /**
     * What to poke (block, byte, mask) so that byte i of a table's k-th block is altered by a mask, and
     * six bytes from a given one so that the sum stays right.
     */
    static int[][] pokes(RunStore x, int block, int k, int i, int mask, int from) {
        int[] bytes = new int[32];
        for (int b = 0; b < 32; b++) {
            bytes[b] = x.byteAt(block, b);
        }
        bytes[i] ^= mask;
        int front = k;
        for (int b = 0; b < from; b++) {
            front = forward(front, bytes[b]);
        }
        int back = x.sum(block);
        for (int b = 31; b >= from + 6; b--) {
            back = backward(back, bytes[b]);
        }
        int[] six = meet(front, back);
        int[][] pokes = new int[7][];
        pokes[6] = new int[] {block, i, mask};
        for (int b = 0; b < 6; b++) {
            pokes[b] = new int[] {block, from + b, bytes[from + b] ^ six[b]};
        }
        return pokes;
    }

    /** A run of calls, and then a forgery. */
    static Edge.Run run(int blocks, Edge.Run run, int block, int k, int i, int mask, int from) {
        int[][] pokes = pokes(Edge.after(blocks, run), block, k, i, mask, from);
        Edge.Run forged = x -> {
            run.on(x);
            for (int[] p : pokes) {
                x.poke(p[0], p[1], p[2]);
            }
        };
        Expect.equal("a forged block is right", Edge.after(blocks, forged).check(), -1);
        return forged;
    }

    /**
     * A table in blocks 0 to 2 of a store of 4 blocks: its last row is key 5, and its length is none. This
     * length is the last byte of block 1 (edge 0), or the first of block 2 (edge 1).
     */
    static Edge.Run lengthAtEdge(int edge) {
        Edge.Run rows = x -> {
            x.put(1, 1, 0);
            x.put(2, 2, 3 + edge);
            x.put(3, 3, 8);
            x.put(4, 4, 8);
            x.put(5, 5, 8);
            x.flush();
        };
        // Six bytes of a value are forged: of key 3, or of key 5 itself.
        return edge == 0 ? run(0, rows, 1, 1, 31, 64, 0) : run(0, rows, 2, 2, 0, 64, 1);
    }

    private static int[] meet(int front, int back) {
        Map<Integer, Integer> reached = new HashMap<>();
        for (int part = 0; part < PARTS; part++) {
            reached.put(forward(forward(forward(front, part & 255), part >> 8 & 255), part >> 16), part);
        }
        for (int part = 0; part < 1 << 24; part++) {
            Integer first = reached.get(backward(backward(backward(back, part & 255), part >> 8 & 255), part >> 16));
            if (first != null) {
                return new int[] {first & 255, first >> 8 & 255, first >> 16, part >> 16, part >> 8 & 255, part & 255};
            }
        }
        throw new IllegalStateException("no forgery found");
    }

    private static int forward(int s, int b) {
        return Integer.rotateLeft(s ^ b, 15) * FACTOR;
    }

    private static int backward(int s, int b) {
        int inverse = FACTOR;
        for (int round = 0; round < 5; round++) {
            inverse *= 2 - FACTOR * inverse;
        }
        return Integer.rotateRight(s * inverse, 15) ^ b;
    }
}
