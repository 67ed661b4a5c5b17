/** Boundary cases of promises 9 and 10: may and table. */
public final class EdgeTableTest {
    public static void main(String[] args) {
        promise9();
        promise9Refusals();
        promise10();
        promise10Refusals();
        Edge.end("EdgeTableTest");
    }

    private static void filterIs(RunStore x, int table, long... of) {
        for (long key = -60; key < 60; key++) {
            boolean first = false;
            boolean second = false;
            for (long entry : of) {
                first |= Edge.hasBit(entry, Edge.bits(key)[0]);
                second |= Edge.hasBit(entry, Edge.bits(key)[1]);
            }
            Expect.equal("may(" + table + ", " + key + ")", x.may(table, key) ? 1 : 0, first && second ? 1 : 0);
        }
    }

    private static long keyWithBits(int first, int second) {
        for (long key = 0; key < 1000000; key++) {
            if (Edge.bits(key)[0] == first && Edge.bits(key)[1] == second) {
                return key;
            }
        }
        throw new IllegalStateException("no such key");
    }

    private static void promise9() {
        Edge.test(9, "its bits are the highest six of h and the six below them: h wraps around", () -> {
            // 0 gives 0 and 0; 1: 39 and 35; -1: 24 and 28; the greatest 56 and 28; the least 32 and 0
            for (long key : new long[] {0, 1, -1, Long.MAX_VALUE, Long.MIN_VALUE}) {
                RunStore x = new RunStore(0);
                Edge.tableOf(x, key, 1, 1);
                Expect.isTrue("may of itself", x.may(0, key));
                filterIs(x, 0, key);
            }
            Expect.equal("bits of 1", Edge.bits(1)[0] * 100 + Edge.bits(1)[1], 3935);
        });
        Edge.test(9, "Whether a table's filter has a key's bits: both, the first, the second, neither", () -> {
            RunStore x = new RunStore(0);
            Edge.tableOf(x, 1, 1, 1);
            Expect.isTrue("both, the other way round", x.may(0, keyWithBits(35, 39)));
            Expect.isTrue("the first twice", x.may(0, keyWithBits(39, 39)));
            Expect.isTrue("the second twice", x.may(0, keyWithBits(35, 35)));
            Expect.isTrue("the first alone", !x.may(0, keyWithBits(39, 36)));
            Expect.isTrue("the second alone", !x.may(0, keyWithBits(38, 35)));
            Expect.isTrue("neither", !x.may(0, keyWithBits(38, 36)));
        });
        Edge.test(9, "a FILTER of 64 bits: bits 0, 31, 32 and 63", () -> {
            int[][] pairs = {{0, 63}, {63, 0}, {63, 63}, {0, 0}, {31, 32}, {32, 31}};
            for (int[] p : pairs) {
                RunStore x = new RunStore(0);
                Edge.tableOf(x, keyWithBits(p[0], p[1]), 1, 1);
                for (int bit : new int[] {0, 1, 31, 32, 62, 63}) {
                    boolean due = bit == p[0] || bit == p[1];
                    Expect.equal("bit " + bit, x.may(0, keyWithBits(bit, bit)) ? 1 : 0, due ? 1 : 0);
                }
            }
        });
        Edge.test(9, "the filter has the bits of all its entries: marks, too", () -> {
            RunStore x = new RunStore(0);
            x.put(1, 1, 1);
            x.drop(2);
            x.put(3, 3, 0);
            x.flush();
            filterIs(x, 0, 1, 2, 3);
        });
        Edge.test(9, "tables are numbered as they count, from 0", () -> {
            RunStore x = new RunStore(60);
            for (int level = 3; level > 0; level--) {
                Edge.tableOnLevel(x, level, 10 + level, 1);
            }
            Edge.tableOf(x, 21, 1, 1);
            Edge.tableOf(x, 20, 1, 1);
            long[] keys = {20, 21, 11, 12, 13};
            for (int t = 0; t < 5; t++) {
                for (int k = 0; k < 5; k++) {
                    boolean due = Edge.passes(keys[t], keys[k]);
                    Expect.equal("may(" + t + ", " + keys[k] + ")", x.may(t, keys[k]) ? 1 : 0, due ? 1 : 0);
                }
            }
        });
        Edge.test(9, "Whether a table's filter has a key's bits: nothing is counted, altered blocks or not", () ->
            Edge.onlyLooks(0, x -> {
                Edge.tableOf(x, 1, 1, 1);
                x.poke(0, 0, 1);
                Expect.refuses("find", Edge.STATE, () -> x.find(1));
            }, x -> {
                Expect.isTrue("in it", x.may(0, 1));
                Expect.isTrue("not in it", !x.may(0, 2));
            }));
    }

    private static void promise9Refusals() {
        Edge.test(9, "IndexOutOfBoundsException, when there is none: no tables", () -> {
            for (int t : new int[] {-1, 0, 1, Edge.MIN, Edge.MAX}) {
                Edge.refused(Edge.INDEX, 0, x -> x.put(1, 1, 1), x -> x.may(t, 1));
            }
        });
        Edge.test(9, "IndexOutOfBoundsException, when there is none: beside the first and the last", () -> {
            for (int t : new int[] {-1, 2, 15, 16, Edge.MIN, Edge.MAX}) {
                Edge.refused(Edge.INDEX, 0, EdgeTableTest::two, x -> x.may(t, 1));
            }
        });
        Edge.test(9, "IndexOutOfBoundsException, when there is none: the 17th of 16", () -> {
            RunStore x = Edge.after(124, EdgeTableTest::sixteen);
            Expect.isTrue("the 16th", x.may(15, 0));
            Expect.refuses("a 17th", Edge.INDEX, () -> x.may(16, 0));
        });
        Edge.test(9, "IndexOutOfBoundsException, when there is none: it was joined", () -> {
            RunStore x = Edge.after(0, EdgeTableTest::two);
            Expect.isTrue("the second", x.may(1, 1));
            x.join(0);
            Expect.refuses("is no more", Edge.INDEX, () -> x.may(1, 1));
        });
    }

    private static void two(RunStore x) {
        Edge.tableOf(x, 1, 1, 1);
        Edge.tableOf(x, 2, 2, 2);
    }

    private static void sixteen(RunStore x) {
        for (int t = 0; t < 16; t++) {
            Edge.tableOf(x, t, t, 1);
        }
    }

    private static void tableIs(RunStore x, int t, int... due) {
        for (int what = 0; what < 4; what++) {
            Expect.equal("table(" + t + ", " + what + ")", x.table(t, what), due[what]);
        }
    }

    private static void promise10() {
        Edge.test(10, "its level (what 0), entries (1), blocks (2), its first block (3): the least table", () -> {
            RunStore x = new RunStore(0);
            x.drop(0);
            x.flush();
            tableIs(x, 0, 0, 1, 1, 0);
        });
        Edge.test(10, "its level (what 0), entries (1), blocks (2), its first block (3): the greatest of level 0", () -> {
            RunStore x = new RunStore(124);
            Edge.putKeys(x, 0, 24, 8);
            x.flush();
            tableIs(x, 0, 0, 24, 13, 0);
        });
        Edge.test(10, "A TABLE is of a LEVEL 0 .. 3: each of them", () -> {
            RunStore x = new RunStore(60);
            for (int level = 3; level > 0; level--) {
                Edge.tableOnLevel(x, level, level, 1);
            }
            Edge.tableOf(x, 1, 1, 1);
            for (int level = 0; level <= 3; level++) {
                Expect.equal("level", x.table(level, 0), level);
            }
        });
        Edge.test(10, "the others one at most: joined again and again", () -> {
            RunStore x = new RunStore(60);
            for (int round = 0; round < 6; round++) {
                Edge.tableOf(x, round, round, 1);
                x.join(0);
                Expect.equal("tables", x.count(3), 1);
                tableIs(x, 0, 1, round + 1, (10 * (round + 1) + 31) / 32, x.table(0, 3));
            }
            for (int round = 0; round < 3; round++) {
                Edge.tableOf(x, 10 + round, round, 1);
                x.join(0);
                x.join(1);
                Expect.equal("tables", x.count(3), 1);
                Expect.equal("on level 2", x.table(0, 0), 2);
            }
        });
        Edge.test(10, "its first block (3): the last one of all, and one over a gap", () -> {
            RunStore x = new RunStore(0);
            for (int t = 0; t < 4; t++) {
                Edge.tableOf(x, t, t, 1);
            }
            tableIs(x, 0, 0, 1, 1, 3);
            RunStore y = new RunStore(3);
            Edge.tableOnLevel(y, 1, 1, 1);
            Edge.putKeys(y, 10, 2, 8);
            y.flush();
            tableIs(y, 0, 0, 2, 2, 0);
            tableIs(y, 1, 1, 1, 1, 1);
        });
        Edge.test(10, "entries (1): as they were written, though a block was altered", () ->
            Edge.onlyLooks(0, x -> {
                Edge.putKeys(x, 1, 3, 8);
                x.flush();
                x.poke(0, 8, 255);
                x.poke(1, 8, 255);
            }, x -> tableIs(x, 0, 0, 3, 2, 0)));
    }

    private static void promise10Refusals() {
        Edge.test(10, "IndexOutOfBoundsException, when there is none: no tables", () -> {
            for (int t : new int[] {-1, 0, 1, Edge.MIN, Edge.MAX}) {
                Edge.refused(Edge.INDEX, 0, x -> x.put(1, 1, 1), x -> x.table(t, 0));
            }
        });
        Edge.test(10, "IndexOutOfBoundsException, when there is none: beside the first and the last", () -> {
            for (int t : new int[] {-1, 2, 15, 16, Edge.MIN, Edge.MAX}) {
                Edge.refused(Edge.INDEX, 0, EdgeTableTest::two, x -> x.table(t, 3));
            }
        });
        Edge.test(10, "IndexOutOfBoundsException, when there is none: the 17th of 16", () -> {
            RunStore x = Edge.after(124, EdgeTableTest::sixteen);
            tableIs(x, 15, 0, 1, 1, 0);
            Expect.refuses("a 17th", Edge.INDEX, () -> x.table(16, 0));
        });
        Edge.test(10, "IndexOutOfBoundsException, when there is none: it was joined", () -> {
            RunStore x = Edge.after(0, EdgeTableTest::two);
            x.join(0);
            tableIs(x, 0, 1, 2, 1, 2);
            Expect.refuses("the second", Edge.INDEX, () -> x.table(1, 0));
        });
        Edge.test(10, "or for another what", () -> {
            for (int what : new int[] {-1, 4, 5, 256, Edge.MIN, Edge.MAX}) {
                Edge.refused(Edge.INDEX, 0, EdgeTableTest::two, x -> x.table(0, what));
                Edge.refused(Edge.INDEX, 0, EdgeTableTest::two, x -> x.table(1, what));
            }
        });
        Edge.test(10, "when there is none, or for another what: both", () ->
            Edge.refused(Edge.INDEX, 0, EdgeTableTest::two, x -> x.table(2, 4)));
    }
}
