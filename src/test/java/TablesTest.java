/** Promises 4, 5, 9 and 10: tables, their blocks and their filters. */
public final class TablesTest {
    private static final Class<IllegalArgumentException> ARGUMENT = IllegalArgumentException.class;
    private static final Class<UnsupportedOperationException> UNSUPPORTED = UnsupportedOperationException.class;
    private static final Class<IllegalStateException> STATE = IllegalStateException.class;
    private static final Class<IndexOutOfBoundsException> INDEX = IndexOutOfBoundsException.class;

    public static void main(String[] args) {
        promise4Bytes();
        promise4Refusals();
        promise5Entries();
        promise5Marks();
        promise5Nothing();
        promise5Blocks();
        promise5Refusals();
        promise5Faults();
        promise9();
        promise10();
        Expect.end("TablesTest");
    }

    private static void bytes(RunStore x, int block, int... due) {
        for (int i = 0; i < 32; i++) {
            Expect.equal("byte " + i + " of block " + block, x.byteAt(block, i), i < due.length ? due[i] : 0);
        }
    }

    private static void promise4Bytes() {
        RunStore x = new RunStore(3);
        x.put(0x0102030405060708L, 0xAABBCCL, 3);
        x.drop(-2);
        x.put(-3, 0x1122334455667788L, 8);
        Expect.equal("38 bytes", x.flush(), 2);
        bytes(x, 0, 255, 255, 255, 255, 255, 255, 255, 253, 8, 0x11, 0x22, 0x33, 0x44, 0x55, 0x66, 0x77, 0x88,
            255, 255, 255, 255, 255, 255, 255, 254, 255, 1, 2, 3, 4, 5, 6);
        bytes(x, 1, 7, 8, 3, 0xAA, 0xBB, 0xCC);
        Expect.equal("memory is empty", x.count(1), 0);
        Expect.equal("the log is empty", x.count(2), 0);
        Expect.refuses("no byte is logged", INDEX, () -> x.logged(0));
        Expect.equal("free blocks", x.count(4), 5);
        Expect.equal("one table", x.count(3), 1);
        Expect.equal("of three entries", x.count(7), 3);
        x.put(4, 4, 1);
        Expect.equal("a second table", x.flush(), 1);
        Expect.equal("the newest is the first", x.table(0, 1), 1);
        Expect.equal("in the lowest free block", x.table(0, 3), 2);
        Expect.equal("the older one", x.table(1, 1), 3);

        RunStore y = new RunStore(0);
        y.put(1, 1, 8);
        y.put(2, 1, 6);
        Expect.equal("32 bytes", y.flush(), 1);
        y.put(1, 1, 8);
        y.put(2, 1, 7);
        Expect.equal("33 bytes", y.flush(), 2);

        RunStore z = new RunStore(60);
        for (int k = 0; k < 24; k++) {
            z.put(k, -1, 8);
        }
        Expect.equal("408 bytes", z.flush(), 13);
        // the last entry begins at 391, byte 7 of the last block
        bytes(z, 12, 255, 255, 255, 255, 255, 255, 255, 0, 0, 0, 0, 0, 0, 0, 23, 8,
            255, 255, 255, 255, 255, 255, 255, 255);
        z.put(5, 5, 1);
        z.flush();
        bytes(z, 13, 0, 0, 0, 0, 0, 0, 0, 5, 1, 5);
    }

    private static void promise4Refusals() {
        RunStore x = new RunStore(0);
        Expect.refusesAndKeeps("flush of nothing", STATE, x, x::flush);
        for (int k = 0; k < 8; k++) {
            x.put(k, k, 8);
        }
        Expect.refusesAndKeeps("136 bytes in 4 blocks", UNSUPPORTED, x, x::flush);
        Expect.equal("memory is kept", x.find(7), 7);
        x.drop(7);
        Expect.equal("128 bytes in 4 blocks", x.flush(), 4);
        Expect.equal("none is free", x.count(4), 0);
        x.drop(1);
        Expect.refusesAndKeeps("no block is free", UNSUPPORTED, x, x::flush);
        Expect.equal("the mark is kept", x.length(1), -1);

        RunStore y = new RunStore(124);
        for (int t = 0; t < 16; t++) {
            y.put(t, t, 1);
            y.flush();
        }
        Expect.refusesAndKeeps("no keys, 16 tables", STATE, y, y::flush);
        y.put(16, 16, 1);
        Expect.refusesAndKeeps("16 tables", UNSUPPORTED, y, y::flush);
        Expect.equal("one of none of them", y.length(-9), -1);
        Expect.equal("one of the oldest", y.find(0), 0);
        Expect.refuses("a 17th", INDEX, () -> y.may(16, 0));
        Expect.refuses("a 17th table", INDEX, () -> y.table(16, 0));
        y.join(0);
        Expect.equal("one table", y.count(3), 1);
        Expect.equal("room again", y.flush(), 1);
        for (int t = 0; t < 14; t++) {
            y.put(t, t, 1);
            Expect.equal("flush " + t, y.flush(), 1);
        }
        y.put(1, 1, 1);
        Expect.refusesAndKeeps("16 tables of two levels", UNSUPPORTED, y, y::flush);
    }

    private static void promise5Entries() {
        RunStore x = new RunStore(60);
        x.put(1, 11, 1);
        x.put(2, 12, 1);
        x.put(3, 13, 1);
        x.flush();
        x.put(2, 22, 2);
        x.put(4, 24, 2);
        x.flush();
        x.drop(3);
        x.put(4, 34, 3);
        x.put(-1, 31, 3);
        x.flush();
        x.put(1, 99, 1);
        Expect.equal("-1, 1, 2, 4", x.join(0), 4);
        Expect.equal("of the next level", x.table(0, 0), 1);
        Expect.equal("the only table", x.count(3), 1);
        Expect.equal("memory is left alone", x.count(1), 1);
        Expect.equal("memory counts first", x.find(1), 99);
        x.crash(0, -1, 0);
        Expect.equal("of the oldest", x.find(1), 11);
        Expect.equal("of the middle", x.find(2), 22);
        Expect.equal("its length", x.length(2), 2);
        Expect.equal("dropped by the newest", x.length(3), -1);
        Expect.equal("of the newest", x.find(4), 34);
        Expect.equal("of the newest alone", x.find(-1), 31);

        x.put(2, 52, 1);
        x.put(9, 59, 1);
        x.flush();
        Expect.equal("with the table of level 1", x.join(0), 5);
        Expect.equal("what came later", x.find(2), 52);
        Expect.equal("what was there", x.find(4), 34);
        Expect.equal("level 1 to 2", x.join(1), 5);
        Expect.equal("its level", x.table(0, 0), 2);
        Expect.equal("level 2 to 3", x.join(2), 5);
        Expect.equal("its level", x.table(0, 0), 3);
        Expect.equal("what was there", x.find(9), 59);
    }

    private static void promise5Marks() {
        RunStore x = new RunStore(60);
        x.put(1, 1, 1);
        x.put(2, 2, 1);
        x.flush();
        x.join(0);
        x.join(1);
        x.join(2);
        x.drop(1);
        x.flush();
        Expect.equal("a level behind: the mark is kept", x.join(0), 1);
        Expect.equal("dropped", x.length(1), -1);
        Expect.equal("a level behind still", x.join(1), 1);
        Expect.equal("on level 2", x.table(0, 0), 2);
        Expect.equal("dropped", x.length(1), -1);
        Expect.equal("none behind: the mark is left out", x.join(2), 1);
        Expect.equal("dropped", x.length(1), -1);
        Expect.equal("the other one", x.find(2), 2);
        Expect.equal("one entry in all", x.count(7), 1);

        RunStore y = new RunStore(60);
        y.put(1, 1, 1);
        y.flush();
        y.join(0);
        y.drop(1);
        y.drop(5);
        y.put(6, 6, 1);
        y.flush();
        Expect.equal("the next level is not behind it", y.join(0), 1);
        Expect.equal("one entry", y.count(7), 1);
    }

    private static void promise5Nothing() {
        RunStore x = new RunStore(60);
        x.put(1, 1, 1);
        x.flush();
        x.drop(1);
        x.flush();
        Expect.equal("no entries", x.join(0), 0);
        Expect.equal("no table", x.count(3), 0);
        Expect.equal("all is free", x.count(4), 64);
        Expect.equal("bytes are kept", x.byteAt(0, 7), 1);
        Expect.isTrue("sums are kept", x.sum(0) != 0 && x.sum(1) != 0);
        Expect.refuses("no table now", STATE, () -> x.join(0));
        Expect.refuses("none on the next level", STATE, () -> x.join(1));

        RunStore y = new RunStore(60);
        y.drop(1);
        y.flush();
        y.join(0);
        y.put(3, 3, 1);
        y.flush();
        y.join(0);
        y.join(1);
        y.put(4, 4, 1);
        y.flush();
        Expect.equal("nothing was left of a mark alone", y.count(3), 2);
    }

    private static void promise5Blocks() {
        RunStore x = new RunStore(5);
        x.put(1, 1, 8);
        x.put(2, 2, 8);
        x.flush();
        x.put(2, 3, 8);
        x.put(3, 3, 8);
        x.flush();
        Expect.equal("five are free", x.count(4), 5);
        x.join(0);
        Expect.equal("the new one lies behind the old ones", x.table(0, 3), 4);
        Expect.equal("51 bytes", x.table(0, 2), 2);
        Expect.equal("the old ones are free", x.count(4), 7);
        Expect.equal("a free one keeps its bytes", x.byteAt(0, 7), 1);
        Expect.equal("four blocks were checked", x.count(5), 4);
        x.put(7, 7, 1);
        x.flush();
        Expect.equal("the lowest free one", x.table(0, 3), 0);
        x.join(1);
        Expect.equal("between them", x.table(1, 3), 1);
        Expect.equal("six blocks were checked", x.count(5), 6);
        for (int k = 0; k < 5; k++) {
            x.put(k + 20, k, 8);
        }
        Expect.equal("85 bytes", x.flush(), 3);
        Expect.equal("from block 3", x.table(0, 3), 3);
        Expect.equal("7, and what was put", x.join(0), 6);
        Expect.equal("95 bytes", x.table(0, 2), 3);
        Expect.equal("the last free ones", x.table(0, 3), 6);
        Expect.equal("0, 3, 4, 5 are free", x.count(4), 4);
        for (int k = 0; k < 5; k++) {
            x.put(k + 30, k, 8);
        }
        x.flush();
        Expect.equal("from block 0", x.table(0, 3), 0);
        Expect.equal("the second entry begins there", x.byteAt(0, 24), 31);
        Expect.equal("and goes on in block 3", x.byteAt(3, 1), 1);
        Expect.equal("the last one lies in block 4", x.byteAt(4, 11), 34);
        for (int k = 0; k < 5; k++) {
            Expect.equal("of blocks that are apart", x.find(k + 30), k);
            Expect.equal("of the joined table", x.find(k + 20), k);
        }
        Expect.equal("all sums are right", x.check(), -1);
    }

    private static void promise5Refusals() {
        RunStore x = new RunStore(0);
        for (int level : new int[] {-1, 3, 4, Integer.MIN_VALUE, Integer.MAX_VALUE}) {
            Expect.refusesAndKeeps("join(" + level + ")", ARGUMENT, x, () -> x.join(level));
        }
        for (int level = 0; level < 3; level++) {
            int of = level;
            Expect.refusesAndKeeps("join(" + level + ") of nothing", STATE, x, () -> x.join(of));
        }
        x.put(1, 1, 8);
        x.put(2, 2, 8);
        x.flush();
        x.put(3, 3, 1);
        x.flush();
        Expect.refusesAndKeeps("no table of level 1", STATE, x, () -> x.join(1));
        String rows = Expect.rows(x);
        Expect.refuses("two blocks, one is free", UNSUPPORTED, () -> x.join(0));
        Expect.same("rows after it", Expect.rows(x), rows);
        Expect.equal("their blocks were checked", x.count(5), 3);
        Expect.equal("no fault", x.badAt(), -1);
        x.poke(0, 0, 1);
        Expect.refuses("a fault is told first", STATE, () -> x.join(0));
        Expect.equal("its block", x.badAt(), 0);
        x.poke(0, 0, 1);
        Expect.refuses("as before", UNSUPPORTED, () -> x.join(0));
        Expect.equal("its fault is gone", x.badAt(), -1);

        RunStore y = new RunStore(0);
        y.put(1, 1, 8);
        y.put(2, 2, 8);
        y.flush();
        Expect.equal("just so many free blocks", y.join(0), 2);
        y.drop(1);
        y.drop(2);
        y.flush();
        y.put(4, 4, 1);
        y.flush();
        Expect.equal("no block is free", y.count(4), 0);
        Expect.refuses("one is needed", UNSUPPORTED, () -> y.join(0));
        RunStore z = new RunStore(0);
        for (int k = 0; k < 8; k++) {
            z.drop(k);
        }
        Expect.equal("72 bytes of marks", z.flush(), 3);
        z.drop(9);
        z.flush();
        Expect.equal("no block is needed", z.join(0), 0);
        Expect.equal("all are free", z.count(4), 4);
    }

    private static void promise5Faults() {
        RunStore x = new RunStore(60);
        for (int t = 0; t < 3; t++) {
            for (int k = 0; k < 3; k++) {
                x.put(t * 10 + k, k, 8);
            }
            x.flush();
            if (t == 0) {
                x.join(0);
            }
        }
        // level 1 in blocks 2, 3; level 0: the older one in 0, 1, the newest in 4, 5
        Expect.equal("the newest", x.table(0, 3), 4);
        Expect.equal("the older", x.table(1, 3), 0);
        Expect.equal("level 1", x.table(2, 3), 2);
        int[] order = {4, 5, 0, 1, 2, 3};
        for (int block : order) {
            x.poke(block, 31, 128);
        }
        for (int i = 0; i < order.length; i++) {
            int before = x.count(5);
            String rows = Expect.rows(x);
            Expect.refuses("join of altered blocks", STATE, () -> x.join(0));
            Expect.equal("the first in order", x.badAt(), order[i]);
            Expect.equal("checked up to it", x.count(5) - before, i + 1);
            Expect.same("rows after a fault", Expect.rows(x), rows);
            x.poke(order[i], 31, 128);
        }
        x.poke(8, 3, 1);
        Expect.equal("nothing is altered but a free block", x.join(0), 9);
        Expect.equal("no fault", x.badAt(), -1);
    }

    private static void promise9() {
        RunStore x = new RunStore(60);
        x.put(1, 1, 1);
        x.put(-77, 1, 1);
        x.drop(Long.MIN_VALUE);
        x.flush();
        x.put(5, 1, 1);
        x.flush();
        long newest = bits(5);
        long older = bits(1) | bits(-77) | bits(Long.MIN_VALUE);
        for (long key = -3000; key < 3000; key++) {
            Expect.equal("may(0, " + key + ")", x.may(0, key) ? 1 : 0, (newest & bits(key)) == bits(key) ? 1 : 0);
            Expect.equal("may(1, " + key + ")", x.may(1, key) ? 1 : 0, (older & bits(key)) == bits(key) ? 1 : 0);
        }
        Expect.isTrue("a mark is in the filter", x.may(1, Long.MIN_VALUE));
        Expect.equal("nothing is counted", x.count(6), 0);
        for (int t : new int[] {-1, 2, 16, Integer.MAX_VALUE, Integer.MIN_VALUE}) {
            Expect.refusesAndKeeps("may(" + t + ")", INDEX, x, () -> x.may(t, 1));
        }
        x.join(0);
        long joined = bits(1) | bits(-77) | bits(5);
        for (long key = -3000; key < 3000; key++) {
            Expect.equal("may of the joined " + key, x.may(0, key) ? 1 : 0, (joined & bits(key)) == bits(key) ? 1 : 0);
        }
        Expect.refuses("no second table now", INDEX, () -> x.may(1, 1));
        Expect.refuses("no table at all", INDEX, () -> new RunStore(1).may(0, 1));
    }

    private static long bits(long key) {
        String h = Long.toBinaryString(key * -7046029254386353131L);
        String whole = "0".repeat(64 - h.length()) + h;
        int first = Integer.parseInt(whole.substring(0, 6), 2);
        int second = Integer.parseInt(whole.substring(6, 12), 2);
        return (1L << first) | (1L << second);
    }

    private static void promise10() {
        RunStore x = new RunStore(60);
        Expect.refusesAndKeeps("a table of none", INDEX, x, () -> x.table(0, 0));
        for (int level = 3; level >= 0; level--) {
            for (int k = 0; k < 4 + level; k++) {
                x.put(k, k, 8);
            }
            x.flush();
            for (int to = 0; to < level; to++) {
                x.join(to);
            }
        }
        x.put(1, 1, 1);
        x.flush();
        int[][] due = {{0, 1, 1}, {0, 4, 3}, {1, 5, 3}, {2, 6, 4}, {3, 7, 4}};
        for (int t = 0; t < due.length; t++) {
            for (int what = 0; what < 3; what++) {
                Expect.equal("table(" + t + ", " + what + ")", x.table(t, what), due[t][what]);
            }
            int first = x.table(t, 3);
            Expect.equal("its first block begins with its least key", x.byteAt(first, 7), t == 0 ? 1 : 0);
            int number = t;
            for (int what : new int[] {-1, 4, Integer.MAX_VALUE, Integer.MIN_VALUE}) {
                Expect.refusesAndKeeps("what " + what, INDEX, x, () -> x.table(number, what));
            }
        }
        for (int t : new int[] {-1, 5, 16, Integer.MAX_VALUE, Integer.MIN_VALUE}) {
            Expect.refusesAndKeeps("table " + t, INDEX, x, () -> x.table(t, 0));
        }
    }
}
