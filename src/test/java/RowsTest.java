/** Promises 1, 2, 3, 6, 7 and 8: rows, in memory and in tables. */
public final class RowsTest {
    private static final Class<IllegalArgumentException> ARGUMENT = IllegalArgumentException.class;
    private static final Class<UnsupportedOperationException> UNSUPPORTED = UnsupportedOperationException.class;
    private static final Class<IllegalStateException> STATE = IllegalStateException.class;

    public static void main(String[] args) {
        promise1();
        promise2Values();
        promise2Refusals();
        promise3();
        promise6And7();
        promise6And7Reading();
        promise6And7Ends();
        promise6And7Faults();
        promise8();
        promise8Faults();
        Expect.end("RowsTest");
    }

    private static void promise1() {
        int[][] due = {{0, 4}, {1, 5}, {124, 128}, {125, 4}, {126, 5}, {-1, 128}, {-125, 4}, {-126, 128},
            {Integer.MAX_VALUE, 4 + Integer.MAX_VALUE % 125},
            {Integer.MIN_VALUE, 4 + Math.floorMod(Integer.MIN_VALUE, 125)}};
        for (int[] d : due) {
            RunStore x = new RunStore(d[0]);
            String name = "RunStore(" + d[0] + ")";
            Expect.equal(name + " blocks", x.count(0), d[1]);
            Expect.equal(name + " free blocks", x.count(4), d[1]);
            for (int what : new int[] {1, 2, 3, 5, 6, 7}) {
                Expect.equal(name + " count " + what, x.count(what), 0);
            }
            Expect.equal(name + " badAt", x.badAt(), -1);
            Expect.equal(name + " check", x.check(), -1);
            Expect.equal(name + " length(0)", x.length(0), -1);
            Expect.equal(name + " after(0)", x.after(0), 0);
            Expect.equal(name + " last byte", x.byteAt(d[1] - 1, 31), 0);
            Expect.equal(name + " last sum", x.sum(d[1] - 1), 0);
            Expect.refuses(name + " block behind the last", IndexOutOfBoundsException.class, () -> x.sum(d[1]));
        }
    }

    private static void promise2Values() {
        long v = 0x8182838485868788L;
        RunStore x = new RunStore(124);
        long[] due = {0, 0x88, 0x8788, 0x868788, 0x85868788L, 0x8485868788L, 0x838485868788L, 0x82838485868788L, v};
        for (int n = 0; n <= 8; n++) {
            Expect.equal("put of " + n + " bytes", x.put(n - 4, v, n), n + 1);
        }
        for (int round = 0; round < 2; round++) {
            for (int n = 0; n <= 8; n++) {
                Expect.equal("find of " + n + " bytes", x.find(n - 4), due[n]);
                Expect.equal("length of " + n + " bytes", x.length(n - 4), n);
            }
            if (round == 0) {
                x.flush();
            }
        }
        Expect.equal("put again", x.put(5, 1, 8), 1);
        Expect.equal("put again, shorter", x.put(5, 0x1234, 1), 1);
        Expect.equal("the later one counts", x.find(5), 0x34);
        Expect.equal("the later length counts", x.length(5), 1);
        Expect.equal("both are logged", x.count(2), 18 + 11);
        Expect.equal("a dropped key", x.drop(5), 1);
        Expect.equal("may be put again", x.put(5, 9, 0), 1);
        Expect.equal("and is there", x.length(5), 0);
    }

    private static void promise2Refusals() {
        RunStore x = new RunStore(0);
        x.put(1, 1, 1);
        for (int n : new int[] {-1, 9, 255, Integer.MAX_VALUE, Integer.MIN_VALUE}) {
            Expect.refusesAndKeeps("put of " + n + " bytes", ARGUMENT, x, () -> x.put(1, 2, n));
        }
        Expect.equal("what was there", x.find(1), 1);
        for (int k = 2; k <= 24; k++) {
            Expect.equal("put " + k, x.put(k * 1000000007L, k, 2), k);
        }
        Expect.refusesAndKeeps("the 25th key", UNSUPPORTED, x, () -> x.put(2, 2, 2));
        Expect.refusesAndKeeps("the 25th key with no length", ARGUMENT, x, () -> x.put(2, 2, 9));
        Expect.equal("the 25th is not there", x.length(2), -1);
        Expect.equal("one of the 24", x.put(24 * 1000000007L, 77, 3), 24);
        Expect.equal("is set", x.find(24 * 1000000007L), 77);

        RunStore y = new RunStore(0);
        for (int i = 0; i < 55; i++) {
            y.put(3, i, 8);
        }
        y.put(4, 1, 7);
        Expect.equal("a log with room for 17 bytes", y.count(2), 1007);
        Expect.refusesAndKeeps("18 bytes more", UNSUPPORTED, y, () -> y.put(3, 99, 8));
        Expect.equal("what was there is kept", y.find(3), 54);
        Expect.refusesAndKeeps("no length, no room", ARGUMENT, y, () -> y.put(3, 99, 10));
        Expect.equal("17 bytes more", y.put(3, 98, 7), 2);
        Expect.equal("a full log", y.count(2), 1024);
        Expect.refusesAndKeeps("10 bytes more", UNSUPPORTED, y, () -> y.put(3, 0, 0));
        y.flush();
        Expect.equal("an empty log has room", y.put(3, 0, 0), 1);
    }

    private static void promise3() {
        RunStore x = new RunStore(10);
        Expect.equal("drop of what was never there", x.drop(7), 1);
        Expect.equal("is logged", x.count(2), 10);
        Expect.equal("drop again", x.drop(7), 1);
        Expect.equal("is logged again", x.count(2), 20);
        Expect.equal("a dropped key's length", x.length(7), -1);
        Expect.equal("a dropped key's value", x.find(7), 0);
        x.put(7, 3, 1);
        x.put(8, 4, 1);
        x.drop(7);
        Expect.equal("memory keeps the mark", x.count(1), 2);
        x.flush();
        Expect.equal("a table keeps the mark", x.count(7), 2);
        Expect.equal("its length byte", x.byteAt(0, 8), 255);
        Expect.equal("dropped in a table", x.length(7), -1);
        x.drop(8);
        Expect.equal("memory's mark counts before a table", x.length(8), -1);
        x.flush();
        Expect.equal("the newer table's mark counts first", x.length(8), -1);

        for (int k = 0; k < 24; k++) {
            x.put(k + 100, k, 1);
        }
        Expect.refusesAndKeeps("drop of a 25th key", UNSUPPORTED, x, () -> x.drop(7));
        Expect.equal("drop of one of the 24", x.drop(100), 24);
        for (int i = 0; i < 75; i++) {
            x.drop(101);
        }
        Expect.equal("a full log", x.count(2), 1024);
        Expect.refusesAndKeeps("drop without room", UNSUPPORTED, x, () -> x.drop(102));
        Expect.equal("what was not dropped", x.find(102), 2);
    }

    private static void promise6And7() {
        RunStore x = new RunStore(60);
        long[] keys = {Long.MIN_VALUE, -1, 0, 1, Long.MAX_VALUE};
        for (int level = 0; level < 4; level++) {
            for (int i = 0; i < keys.length; i++) {
                x.put(keys[i], 1000 * level + i, 2);
            }
            for (int i = 0; i < keys.length; i++) {
                Expect.equal("memory counts first", x.find(keys[i]), 1000 * level + i);
            }
            x.flush();
            for (int to = 0; to < 3 - level; to++) {
                x.join(to);
            }
        }
        Expect.equal("a table on each level", x.count(3), 4);
        for (int i = 0; i < keys.length; i++) {
            Expect.equal("level 0 counts first", x.find(keys[i]), 3000 + i);
            Expect.equal("its length", x.length(keys[i]), 2);
        }
        x.drop(0);
        x.put(1, 5, 0);
        x.flush();
        Expect.equal("the newest of level 0", x.length(0), -1);
        Expect.equal("its value", x.find(0), 0);
        Expect.equal("a value of no bytes", x.length(1), 0);
        Expect.equal("as a number", x.find(1), 0);
        Expect.equal("one of another table", x.find(-1), 3001);
        Expect.equal("one of none", x.length(2), -1);
        Expect.equal("as a number", x.find(2), 0);
    }

    /** Which blocks are checked, and which tables passed by. */
    private static void promise6And7Reading() {
        RunStore x = new RunStore(60);
        // 17 bytes each: entry k lies in blocks k * 17 / 32 up to (k * 17 + 16) / 32
        for (int k = 0; k < 8; k++) {
            x.put(k * 100, k, 8);
        }
        Expect.equal("blocks of 136 bytes", x.flush(), 5);
        for (int k = 0; k < 8; k++) {
            int before = x.count(5);
            Expect.equal("entry " + k, x.find(k * 100), k);
            Expect.equal("checked up to entry " + k, x.count(5) - before, (k * 17 + 16) / 32 + 1);
            before = x.count(5);
            Expect.equal("length of " + k, x.length(k * 100), 8);
            Expect.equal("checked again up to " + k, x.count(5) - before, (k * 17 + 16) / 32 + 1);
        }
        Expect.equal("none passed by", x.count(6), 0);
        for (int k = -1; k < 8; k++) {
            long between = passing(x, 0, k * 100 + 1, k * 100 + 100);
            int before = x.count(5);
            Expect.equal("not there " + between, x.length(between), -1);
            int last = k < 7 ? k + 1 : 7;
            Expect.equal("checked up to the one above " + between, x.count(5) - before, (last * 17 + 16) / 32 + 1);
        }
        Expect.equal("none passed by yet", x.count(6), 0);
        long other = 1;
        while (x.may(0, other)) {
            other++;
        }
        int before = x.count(5);
        Expect.equal("not in the filter", x.find(other), 0);
        Expect.equal("passed by", x.count(6), 1);
        Expect.equal("not in the filter, length", x.length(other), -1);
        Expect.equal("passed by again", x.count(6), 2);
        Expect.equal("nothing checked", x.count(5), before);
        x.put(other, 1, 1);
        x.find(other);
        Expect.equal("memory had it", x.count(6), 2);
        Expect.equal("and nothing was checked", x.count(5), before);
        x.flush();
        x.find(other);
        Expect.equal("the newest table had it, the older was not asked", x.count(6), 2);
        Expect.equal("one block more", x.count(5), before + 1);
    }

    /** What lies behind the last entry is no entry, though 0 looks like one of key 0. */
    private static void promise6And7Ends() {
        RunStore x = new RunStore(60);
        x.put(1, 1, 8);
        x.put(2, 2, 6);
        Expect.equal("32 bytes", x.flush(), 1);
        long above = passing(x, 0, 3, 1000000);
        Expect.equal("above the last one", x.length(above), -1);
        Expect.equal("no fault behind the end", x.badAt(), -1);
        Expect.equal("one block", x.count(5), 1);

        RunStore y = new RunStore(60);
        long below = negativeWithBitsOf0();
        y.put(below, 1, 1);
        y.flush();
        Expect.isTrue("key 0 passes the filter", y.may(0, 0));
        Expect.equal("key 0 is not there", y.length(0), -1);
        Expect.equal("its block was read", y.count(5), 1);
        Expect.equal("and is above none", y.after(below), below);

        RunStore z = new RunStore(60);
        z.put(1, 1, 8);
        z.put(2, 2, 7);
        Expect.equal("33 bytes", z.flush(), 2);
        z.poke(1, 31, 1);
        Expect.equal("the first one", z.find(1), 1);
        Expect.refuses("a last byte in the next block", STATE, () -> z.find(2));
        Expect.equal("that block", z.badAt(), 1);
    }

    private static long negativeWithBitsOf0() {
        for (long key = -1; key > -1000000; key--) {
            RunStore x = new RunStore(0);
            x.drop(key);
            x.flush();
            if (x.may(0, 0)) {
                return key;
            }
        }
        Expect.isTrue("a key with the bits of 0", false);
        return -1;
    }

    /** The first key from a given one that a table's filter lets through, or the last when there is none. */
    private static long passing(RunStore x, int table, long from, long to) {
        for (long key = from; key < to; key++) {
            if (x.may(table, key)) {
                return key;
            }
        }
        Expect.isTrue("a key that passes the filter", false);
        return to;
    }

    private static void promise6And7Faults() {
        RunStore x = new RunStore(60);
        x.put(1, 1, 8);
        x.flush();
        for (int k = 0; k < 4; k++) {
            x.put(k * 100, k, 8);
        }
        Expect.equal("68 bytes", x.flush(), 3);
        Expect.equal("from block 1", x.table(0, 3), 1);
        x.poke(2, 31, 1);
        Expect.equal("the first is whole", x.find(0), 0);
        Expect.equal("one block was wanted", x.count(5), 1);
        Expect.equal("no fault", x.badAt(), -1);
        String before = Expect.rows(x);
        Expect.refuses("the second goes on in block 2", STATE, () -> x.find(100));
        Expect.equal("its block", x.badAt(), 2);
        Expect.equal("both were checked", x.count(5), 3);
        Expect.refuses("its length", STATE, () -> x.length(100));
        Expect.equal("checked again", x.count(5), 5);
        long between = passing(x, 0, 1, 100);
        Expect.equal("a find without a fault", x.find(0), 0);
        Expect.equal("has no bad block", x.badAt(), -1);
        Expect.refuses("one above is read whole, too", STATE, () -> x.find(between));
        Expect.equal("its block again", x.badAt(), 2);
        Expect.same("rows after faults", Expect.rows(x), before);
        x.put(100, 5, 1);
        Expect.equal("memory is asked first", x.find(100), 5);
        Expect.equal("and no fault told", x.badAt(), -1);
        x.poke(2, 31, 1);
        Expect.equal("altered back", x.length(300), 8);
        x.poke(0, 0, 128);
        Expect.equal("the newer table has it", x.find(200), 2);
        Expect.equal("no fault in a newer table", x.badAt(), -1);
        Expect.refuses("the older one has it", STATE, () -> x.length(1));
        Expect.equal("block of the older one", x.badAt(), 0);
    }

    private static void promise8() {
        RunStore x = new RunStore(60);
        x.put(Long.MIN_VALUE, 1, 1);
        x.put(-5, 1, 1);
        x.put(10, 1, 0);
        x.flush();
        x.join(0);
        x.drop(-5);
        x.put(20, 1, 1);
        x.flush();
        x.put(30, 1, 1);
        x.drop(20);
        x.put(Long.MAX_VALUE, 1, 1);
        int before = x.count(5);
        Expect.equal("above the least", x.after(Long.MIN_VALUE), 10);
        Expect.equal("a block of each table", x.count(5) - before, x.table(0, 2) + x.table(1, 2));
        Expect.equal("none is passed by", x.count(6), 0);
        Expect.equal("above a dropped one", x.after(-5), 10);
        Expect.equal("above none", x.after(-6), 10);
        Expect.equal("just below", x.after(9), 10);
        Expect.equal("itself does not count", x.after(10), 30);
        Expect.equal("above 20", x.after(20), 30);
        Expect.equal("above 30", x.after(30), Long.MAX_VALUE);
        Expect.equal("above the greatest", x.after(Long.MAX_VALUE), Long.MAX_VALUE);
        x.drop(Long.MAX_VALUE);
        Expect.equal("none above", x.after(30), 30);
        Expect.equal("none above what is not there", x.after(31), 31);
        x.put(-5, 3, 1);
        Expect.equal("memory counts before a mark", x.after(Long.MIN_VALUE), -5);
    }

    private static void promise8Faults() {
        RunStore x = new RunStore(60);
        for (int k = 0; k < 3; k++) {
            for (int i = 0; i < 4; i++) {
                x.put(i * 10 + k, i, 8);
            }
            x.flush();
        }
        // blocks: the oldest table 0 to 2, then 3 to 5, the newest 6 to 8
        x.poke(2, 31, 4);
        x.poke(4, 0, 4);
        x.poke(5, 0, 4);
        String rows = Expect.rows(x);
        Expect.refuses("after() with blocks altered", STATE, () -> x.after(100));
        Expect.equal("the first one in order", x.badAt(), 4);
        Expect.equal("checked so far", x.count(5), 5);
        Expect.same("rows after a fault", Expect.rows(x), rows);
        x.poke(4, 0, 4);
        Expect.refuses("after() with two", STATE, () -> x.after(100));
        Expect.equal("the next one", x.badAt(), 5);
        Expect.equal("checked then", x.count(5), 11);
        x.poke(5, 0, 4);
        Expect.refuses("after() with one, in padding", STATE, () -> x.after(-100));
        Expect.equal("the last one", x.badAt(), 2);
        Expect.equal("checked at last", x.count(5), 20);
        x.poke(2, 31, 4);
        Expect.equal("nothing is altered", x.after(-100), 0);
        Expect.equal("no bad block", x.badAt(), -1);
        Expect.equal("all were checked", x.count(5), 29);
    }
}
