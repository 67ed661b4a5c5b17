/**
 * Blocks that were altered so that their sums are right all the same: the faults of a length that
 * is none, and of an entry that goes beyond the last block, can be seen in no other way.
 */
public final class ForgedTest {
    private static final Class<IllegalStateException> STATE = IllegalStateException.class;

    public static void main(String[] args) {
        lengthIsNone();
        lengthInTheNextBlock();
        beyondTheLastBlock();
        joinChecksAllBlocksFirst();
        endIsTheNumberOfEntries();
        Expect.end("ForgedTest");
    }

    /** Alters byte i of a table's k-th block, and six bytes from a given one, so that the sum stays right. */
    private static void forge(RunStore x, int block, int k, int i, int mask, int from) {
        for (int[] p : Forge.pokes(x, block, k, i, mask, from)) {
            x.poke(p[0], p[1], p[2]);
        }
        Expect.equal("a forged block is right", x.check(), -1);
    }

    private static void faults(RunStore x, String name, long key, int block) {
        String rows = Expect.rows(x);
        Expect.refuses(name + " find", STATE, () -> x.find(key));
        Expect.equal(name + " find's block", x.badAt(), block);
        x.find(Long.MAX_VALUE - 1);
        Expect.equal(name + " no fault", x.badAt(), -1);
        Expect.refuses(name + " length", STATE, () -> x.length(key));
        Expect.equal(name + " length's block", x.badAt(), block);
        x.find(Long.MAX_VALUE - 1);
        Expect.refuses(name + " after", STATE, () -> x.after(key));
        Expect.equal(name + " after's block", x.badAt(), block);
        x.find(Long.MAX_VALUE - 1);
        Expect.refuses(name + " join", STATE, () -> x.join(0));
        Expect.equal(name + " join's block", x.badAt(), block);
        Expect.same(name + " rows", Expect.rows(x), rows);
    }

    private static void lengthIsNone() {
        int[] masks = {8 ^ 9, 8 ^ 254, 8 ^ 128};
        for (int mask : masks) {
            RunStore x = new RunStore(9);
            x.put(1, 77, 8);
            x.flush();
            forge(x, 0, 0, 8, mask, 9);
            faults(x, "a length of " + (8 ^ mask), 1, 0);
            Expect.equal("one block checked by each of four", x.count(5), 4);
        }
        RunStore y = new RunStore(9);
        y.put(1, 77, 8);
        y.flush();
        forge(y, 0, 0, 8, 8 ^ 255, 9);
        Expect.equal("a length of 255 is a mark", y.length(1), -1);
        Expect.equal("joined, nothing is left", y.join(0), 0);
        RunStore z = new RunStore(9);
        z.drop(1);
        z.flush();
        forge(z, 0, 0, 8, 255 ^ 8, 9);
        Expect.equal("a length of 8 is one", z.length(1), 8);
        Expect.equal("joined, it is kept", z.join(0), 1);
    }

    private static void lengthInTheNextBlock() {
        RunStore x = new RunStore(9);
        x.put(9, 9, 0);
        x.flush();
        x.put(1, 1, 8);
        x.put(2, 2, 0);
        x.put(3, 3, 8);
        x.put(4, 4, 8);
        Expect.equal("60 bytes", x.flush(), 2);
        // the third begins at 26, so that its length is byte 2 of the second block, block 2
        Expect.equal("its length", x.byteAt(2, 2), 8);
        forge(x, 2, 1, 2, 16, 3);
        Expect.equal("the second entry", x.length(2), 0);
        Expect.equal("one block is enough", x.count(5), 1);
        faults(x, "a length in the next block", 3, 2);
        faults(x, "one behind it", 4, 2);

        // 55 or 56 bytes before the last entry: its length is the last byte of a block, or the first
        for (int edge = 0; edge < 2; edge++) {
            RunStore y = new RunStore(9);
            y.put(1, 0, 0);
            y.put(2, 0, 3 + edge);
            y.put(3, 0, 8);
            y.put(4, 0, 8);
            y.put(5, 0, 8);
            Expect.equal("72 or 73 bytes", y.flush(), 3);
            int block = 1 + edge;
            Expect.equal("its length", y.byteAt(block, edge == 0 ? 31 : 0), 8);
            forge(y, block, block, edge == 0 ? 31 : 0, 64, edge == 0 ? 15 : 1);
            faults(y, "a length at an edge", 5, block);
        }
    }

    private static void beyondTheLastBlock() {
        RunStore x = new RunStore(9);
        x.put(1, 1, 8);
        x.put(2, 2, 6);
        Expect.equal("32 bytes", x.flush(), 1);
        forge(x, 0, 0, 25, 6 ^ 7, 26);
        faults(x, "a byte beyond", 2, 0);
        Expect.equal("the entry before", x.find(1), 1);

        RunStore y = new RunStore(9);
        y.put(9, 9, 0);
        y.flush();
        for (int k = 0; k < 3; k++) {
            y.put(k, k, 8);
        }
        y.put(3, 3, 4);
        Expect.equal("64 bytes", y.flush(), 2);
        // the last one begins at 51: its length is byte 27 of block 2, and the third's value 11 to 18
        Expect.equal("its length", y.byteAt(2, 27), 4);
        forge(y, 2, 1, 27, 4 ^ 8, 12);
        faults(y, "four bytes beyond", 3, 2);

        RunStore z = new RunStore(9);
        z.put(1, 0, 0);
        z.put(2, 0, 0);
        z.put(6, 0, 5);
        Expect.equal("32 bytes again", z.flush(), 1);
        // With 8 bytes for the first one, the second is read from 17 with a length of 6, up to the end.
        forge(z, 0, 0, 8, 8, 9);
        faults(z, "one that begins beyond", 6, 0);
    }

    private static void joinChecksAllBlocksFirst() {
        RunStore x = new RunStore(9);
        x.put(1, 1, 8);
        x.flush();
        x.put(1, 2, 8);
        x.flush();
        forge(x, 1, 0, 8, 1, 9);
        x.poke(0, 31, 1);
        Expect.refuses("after reads the newest first", STATE, () -> x.after(1));
        Expect.equal("its length", x.badAt(), 1);
        Expect.equal("one block", x.count(5), 1);
        Expect.refuses("join checks all blocks first", STATE, () -> x.join(0));
        Expect.equal("the older one's sum", x.badAt(), 0);
        Expect.equal("two blocks", x.count(5), 3);
        x.poke(0, 31, 1);
        Expect.refuses("then their entries", STATE, () -> x.join(0));
        Expect.equal("the newest one's length", x.badAt(), 1);
        Expect.equal("two blocks more", x.count(5), 5);
    }

    private static void endIsTheNumberOfEntries() {
        RunStore x = new RunStore(9);
        x.put(0, 1, 8);
        x.flush();
        forge(x, 0, 0, 8, 8 ^ 3, 9);
        Expect.equal("a shorter value", x.length(0), 3);
        Expect.equal("what is behind it is no entry", x.after(0), 0);
        Expect.equal("joined", x.join(0), 1);
        Expect.equal("without what was behind", x.byteAt(1, 12), 0);
    }
}
