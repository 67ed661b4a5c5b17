/** Boundary cases of promises 11, 12 and 13: byteAt, poke and sum. */
public final class EdgeBlockTest {
    public static void main(String[] args) {
        promise11();
        promise12();
        promise12Sums();
        promise13();
        Edge.end("EdgeBlockTest");
    }

    /** Places (block, byte) that are none, of a store of 6 blocks. */
    private static final int[][] NO_PLACES = {
        {-1, 0}, {6, 0}, {Edge.MIN, 0}, {Edge.MAX, 0}, {0, -1}, {0, 32}, {5, 32}, {1, 33}, {0, Edge.MIN},
        {0, Edge.MAX}, {1, -32}, {-1, 32}, {6, -1}, {-1, -1}, {6, 32}, {Edge.MAX / 32 + 1, 0}, {Edge.MIN / 32, 0}};

    private static void written(RunStore x) {
        x.put(-1, -1, 8);
        x.put(1, 0x80, 1);
        x.flush();
    }

    private static void promise11() {
        Edge.test(11, "Byte i of a block: 0 .. 255, not below 0", () -> {
            RunStore x = Edge.after(2, EdgeBlockTest::written);
            Expect.equal("255", x.byteAt(0, 0), 255);
            Expect.equal("128", x.byteAt(0, 26), 128);
            Expect.equal("0", x.byteAt(0, 31), 0);
        });
        Edge.test(11, "BLOCKS 0 .. B - 1 have 32 bytes: the first and the last of the first and the last", () -> {
            for (int blocks : new int[] {0, 124}) {
                RunStore x = new RunStore(blocks);
                int last = x.count(0) - 1;
                int[][] places = {{0, 0}, {0, 31}, {last, 0}, {last, 31}};
                for (int p = 0; p < 4; p++) {
                    x.poke(places[p][0], places[p][1], p + 1);
                }
                for (int p = 0; p < 4; p++) {
                    Expect.equal("byte", x.byteAt(places[p][0], places[p][1]), p + 1);
                }
            }
        });
        Edge.test(11, "free ones keep what they had: 0 at first", () -> {
            RunStore x = new RunStore(0);
            for (int block = 0; block < 4; block++) {
                for (int i = 0; i < 32; i++) {
                    Expect.equal("byte", x.byteAt(block, i), 0);
                }
            }
        });
        Edge.test(11, "free ones keep what they had: after a join, and after one without entries", () -> {
            RunStore x = Edge.after(2, EdgeBlockTest::written);
            x.join(0);
            Edge.blocks(x, new int[] {0}, Edge.joined(Edge.entry(-1, -1, 8), Edge.entry(1, 128, 1)));
            RunStore y = new RunStore(0);
            y.drop(-1);
            y.flush();
            y.join(0);
            Edge.blocks(y, new int[] {0}, Edge.entry(-1, 0, Edge.DROPPED));
        });
        Edge.test(11, "IndexOutOfBoundsException, when there is no such block or byte", () -> {
            for (int[] p : NO_PLACES) {
                Edge.refused(Edge.INDEX, 2, EdgeBlockTest::written, x -> x.byteAt(p[0], p[1]));
            }
        });
        Edge.test(11, "Byte i of a block: nothing is counted or told", () ->
            Edge.onlyLooks(2, x -> {
                written(x);
                x.poke(0, 0, 1);
                Expect.refuses("find", Edge.STATE, () -> x.find(1));
            }, x -> Expect.equal("byte", x.byteAt(0, 0), 254)));
    }

    private static void promise12() {
        Edge.test(12, "exclusive or with a mask's lowest 8 bits: 0, 255 and what is above them", () -> {
            int[][] masks = {{0, 0}, {255, 255}, {256, 255}, {-1, 0}, {-256, 0}, {0x7FFFFF80, 128}, {Edge.MIN, 128},
                {Edge.MAX, 127}, {128, 255}, {1, 254}};
            RunStore x = new RunStore(0);
            for (int[] m : masks) {
                Expect.equal("poke by " + m[0], x.poke(3, 31, m[0]), m[1]);
                Expect.equal("the byte then", x.byteAt(3, 31), m[1]);
            }
        });
        Edge.test(12, "what it is then: 0 .. 255", () -> {
            RunStore x = Edge.after(2, EdgeBlockTest::written);
            Expect.equal("255 by 0", x.poke(0, 0, 0), 255);
            Expect.equal("255 by 255", x.poke(0, 0, 255), 0);
            Expect.equal("0 by 128", x.poke(0, 0, 128), 128);
        });
        Edge.test(12, "Byte i of a block: this one alone, at both ends of a block", () -> {
            for (int i : new int[] {0, 1, 30, 31}) {
                RunStore x = new RunStore(0);
                x.poke(1, i, 77);
                for (int at = 0; at < 96; at++) {
                    Expect.equal("byte " + at, x.byteAt(at / 32, at % 32), at == 32 + i ? 77 : 0);
                }
            }
        });
        Edge.test(12, "Byte i of a block: of a free one, which then is taken", () -> {
            RunStore x = new RunStore(0);
            for (int i = 0; i < 32; i++) {
                Expect.equal("poke", x.poke(0, i, 255), 255);
            }
            Expect.equal("check", x.check(), -1);
            Edge.tableOf(x, 1, 1, 1);
            Edge.blocks(x, new int[] {0}, Edge.entry(1, 1, 1));
            Expect.equal("check", x.check(), -1);
        });
        Edge.test(12, "IndexOutOfBoundsException, when there is no such block or byte", () -> {
            for (int[] p : NO_PLACES) {
                Edge.refused(Edge.INDEX, 2, EdgeBlockTest::written, x -> x.poke(p[0], p[1], 255));
            }
        });
    }

    private static void promise12Sums() {
        Edge.test(12, "(Its sum stays.): of a table's block", () -> {
            RunStore x = Edge.after(2, EdgeBlockTest::written);
            int sum = x.sum(0);
            x.poke(0, 31, 1);
            Expect.equal("its sum", x.sum(0), sum);
            Expect.equal("is not right", x.check(), 0);
            x.poke(0, 31, 1);
            Expect.equal("its sum again", x.sum(0), sum);
            Expect.equal("is right", x.check(), -1);
        });
        Edge.test(12, "(Its sum stays.): of a free block, never taken or given up", () -> {
            RunStore x = Edge.after(2, EdgeBlockTest::written);
            x.poke(5, 0, 1);
            Expect.equal("never taken", x.sum(5), 0);
            x.join(0);
            int sum = x.sum(0);
            x.poke(0, 0, 1);
            Expect.equal("given up", x.sum(0), sum);
        });
        Edge.test(12, "(Its sum stays.): badAt() and counts stay, too", () -> {
            RunStore x = Edge.after(2, EdgeBlockTest::written);
            x.poke(0, 0, 1);
            Expect.refuses("find", Edge.STATE, () -> x.find(1));
            x.poke(0, 0, 1);
            Expect.equal("badAt", x.badAt(), 0);
            Expect.equal("checked", x.count(5), 1);
        });
    }

    private static void promise13() {
        Edge.test(13, "0 of one that was never taken", () -> {
            RunStore x = Edge.after(2, EdgeBlockTest::written);
            for (int block = 1; block < 6; block++) {
                x.poke(block, 3, 3);
                Expect.equal("sum", x.sum(block), 0);
            }
            Expect.isTrue("of one that was", x.sum(0) != 0);
        });
        Edge.test(13, "0 of one that was never taken: also after refused calls", () -> {
            RunStore x = new RunStore(0);
            Edge.putKeys(x, 0, 9, 8);
            Expect.refuses("flush", Edge.UNSUPPORTED, x::flush);
            for (int block = 0; block < 4; block++) {
                Expect.equal("sum", x.sum(block), 0);
                Expect.equal("byte", x.byteAt(block, 7), 0);
            }
        });
        Edge.test(13, "A block's sum as it is kept: below 0, above, and 0", () -> {
            RunStore x = new RunStore(0);
            Edge.tableOf(x, -1, -1, 8);
            x.drop(0);
            x.flush();
            Edge.tableOf(x, 0, 0, 0);
            Expect.equal("below 0", x.sum(0), -678087591);
            Expect.equal("above 0", x.sum(1), 922687198);
            Expect.equal("zeros", x.sum(2), 0);
        });
        Edge.test(13, "A block's sum as it is kept: of one that was given up", () -> {
            RunStore x = Edge.after(2, EdgeBlockTest::written);
            int sum = x.sum(0);
            x.join(0);
            Expect.equal("kept", x.sum(0), sum);
            Edge.tableOf(x, 1, 1, 1);
            Expect.equal("taken again", x.sum(0), -1170794280);
        });
        Edge.test(13, "The SUM of the table's k-th block (from 0) begins with k: 0, 1, and 0 again in the next table", () -> {
            RunStore x = new RunStore(0);
            for (int k = 0; k < 4; k++) {
                x.put(k, 0, 7);
            }
            Expect.equal("64 bytes", x.flush(), 2);
            Expect.equal("k is 0", x.sum(0), Edge.sumOf(x, 0, 0));
            Expect.equal("k is 1", x.sum(1), Edge.sumOf(x, 1, 1));
            Edge.tableOf(x, 2, 0, 7);
            Edge.tableOf(x, 3, 0, 7);
            Expect.equal("of another table, k is 0 again", x.sum(2), Edge.sumOf(x, 2, 0));
            Expect.equal("and again", x.sum(3), Edge.sumOf(x, 3, 0));
        });
        Edge.test(13, "IndexOutOfBoundsException, when there is none", () -> {
            for (int block : new int[] {-1, 6, 7, Edge.MIN, Edge.MAX}) {
                Edge.refused(Edge.INDEX, 2, EdgeBlockTest::written, x -> x.sum(block));
            }
            RunStore x = new RunStore(124);
            Expect.equal("the last of 128", x.sum(127), 0);
            Expect.refuses("behind it", Edge.INDEX, () -> x.sum(128));
        });
        Edge.test(13, "A block's sum as it is kept: nothing is counted or told", () ->
            Edge.onlyLooks(2, x -> {
                written(x);
                x.poke(0, 0, 1);
                Expect.refuses("find", Edge.STATE, () -> x.find(1));
            }, x -> x.sum(0)));
    }
}
