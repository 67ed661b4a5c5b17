/** Promises 11, 12, 13, 16, 17 and 18: blocks, their sums, faults and counts. */
public final class BlocksTest {
    private static final Class<IllegalStateException> STATE = IllegalStateException.class;
    private static final Class<IndexOutOfBoundsException> INDEX = IndexOutOfBoundsException.class;

    public static void main(String[] args) {
        promise11();
        promise12();
        promise13();
        promise16();
        promise17();
        promise18();
        Expect.end("BlocksTest");
    }

    private static void promise11() {
        RunStore x = new RunStore(2);
        x.put(-1, 0x80FF, 2);
        x.flush();
        Expect.equal("not below 0", x.byteAt(0, 0), 255);
        Expect.equal("a length", x.byteAt(0, 8), 2);
        Expect.equal("a value's highest byte", x.byteAt(0, 9), 128);
        Expect.equal("padding", x.byteAt(0, 31), 0);
        Expect.equal("a free one", x.byteAt(5, 31), 0);
        x.join(0);
        Expect.equal("freed, and kept", x.byteAt(0, 9), 128);
        x.put(3, 0, 0);
        x.flush();
        Expect.equal("taken again, what was there is gone", x.byteAt(0, 9), 0);
        refusesPlaces(x, "byteAt");
        int[][] none = {{0, 32}, {0, -1}, {6, 0}, {-1, 0}, {1, 33}};
        for (int[] at : none) {
            Expect.refusesAndKeeps("byteAt", INDEX, x, () -> x.byteAt(at[0], at[1]));
        }
    }

    private static void refusesPlaces(RunStore x, String name) {
        int[] far = {Integer.MIN_VALUE, -1, x.count(0), Integer.MAX_VALUE};
        int[] beyond = {Integer.MIN_VALUE, -1, 32, Integer.MAX_VALUE};
        for (int block : far) {
            Expect.refuses(name + " of block " + block, INDEX, () -> x.byteAt(block, 0));
            Expect.refuses("poke of block " + block, INDEX, () -> x.poke(block, 0, 1));
            Expect.refuses("sum of block " + block, INDEX, () -> x.sum(block));
        }
        for (int i : beyond) {
            Expect.refuses(name + " of byte " + i, INDEX, () -> x.byteAt(0, i));
            Expect.refuses("poke of byte " + i, INDEX, () -> x.poke(0, i, 1));
        }
    }

    private static void promise12() {
        RunStore x = new RunStore(2);
        x.put(1, 0x55, 1);
        x.flush();
        int sum = x.sum(0);
        Expect.equal("poke", x.poke(0, 9, 0xFF), 0xAA);
        Expect.equal("what it is then", x.byteAt(0, 9), 0xAA);
        Expect.equal("the lowest 8 bits alone", x.poke(0, 9, 0xFFFFFF0F), 0xA5);
        Expect.equal("a mask of 256", x.poke(0, 9, 256), 0xA5);
        Expect.equal("a mask below 0", x.poke(0, 9, -1), 0x5A);
        Expect.equal("its sum stays", x.sum(0), sum);
        Expect.equal("its neighbours stay", x.byteAt(0, 8) * 1000 + x.byteAt(0, 10), 1000);
        Expect.equal("a free one", x.poke(5, 31, 7), 7);
        Expect.equal("is altered", x.byteAt(5, 31), 7);
        Expect.equal("and has no sum", x.sum(5), 0);
        Expect.equal("nothing is counted", x.count(5), 0);
        int[][] none = {{0, 32}, {0, -1}, {6, 0}, {-1, 0}, {1, 33}};
        for (int[] at : none) {
            Expect.refusesAndKeeps("poke", INDEX, x, () -> x.poke(at[0], at[1], 255));
        }
    }

    private static void promise13() {
        RunStore x = new RunStore(60);
        Expect.equal("never taken", x.sum(3), 0);
        for (int k = 0; k < 10; k++) {
            x.put(-k * 123456789123L, k * 987654321L, 8);
        }
        x.flush();
        x.put(1, 1, 1);
        x.flush();
        for (int k = 0; k < x.table(1, 2); k++) {
            Expect.equal("sum of block " + k, x.sum(k), sumOf(x, k, k));
        }
        int second = x.table(0, 3);
        Expect.equal("a table's own first block", x.sum(second), sumOf(x, second, 0));
        int first = x.sum(0);
        x.join(0);
        Expect.equal("a freed one keeps its sum", x.sum(0), first);
        int joined = x.table(0, 3);
        for (int k = 0; k < x.table(0, 2); k++) {
            Expect.equal("sum of the joined " + k, x.sum(joined + k), sumOf(x, joined + k, k));
        }
        for (int block : new int[] {-1, 64, Integer.MIN_VALUE, Integer.MAX_VALUE}) {
            Expect.refusesAndKeeps("sum", INDEX, x, () -> x.sum(block));
        }
    }

    private static int sumOf(RunStore x, int block, int k) {
        long s = k;
        for (int i = 0; i < 32; i++) {
            s = (s ^ x.byteAt(block, i)) & 0xFFFFFFFFL;
            s = ((s << 15) | (s >> 17)) & 0xFFFFFFFFL;
            s = (s * 374761393L) & 0xFFFFFFFFL;
        }
        return (int) s;
    }

    private static void promise16() {
        RunStore x = new RunStore(60);
        Expect.equal("before any", x.badAt(), -1);
        x.put(1, 1, 1);
        x.flush();
        x.poke(0, 0, 1);
        x.check();
        Expect.equal("check() tells it not", x.badAt(), -1);
        Expect.refuses("find", STATE, () -> x.find(1));
        Expect.equal("find tells it", x.badAt(), 0);
        x.put(2, 2, 2);
        x.drop(3);
        Expect.refuses("a level that is none", IllegalArgumentException.class, () -> x.join(3));
        Expect.equal("is not one of these", x.badAt(), 0);
        Expect.refuses("a level without a table", STATE, () -> x.join(1));
        Expect.equal("is not one of these", x.badAt(), 0);
        x.may(0, 1);
        x.crash(0, -1, 0);
        x.put(2, 2, 2);
        x.flush();
        Expect.equal("other calls leave it", x.badAt(), 0);
        Expect.equal("a find without a fault", x.find(2), 2);
        Expect.equal("ends it", x.badAt(), -1);
        Expect.refuses("length", STATE, () -> x.length(1));
        Expect.equal("length tells it", x.badAt(), 0);
        Expect.equal("length without a fault", x.length(2), 2);
        Expect.equal("ends it", x.badAt(), -1);
        Expect.refuses("after", STATE, () -> x.after(1));
        Expect.equal("after tells it", x.badAt(), 0);
        x.poke(0, 0, 1);
        Expect.equal("after without a fault", x.after(1), 2);
        Expect.equal("ends it", x.badAt(), -1);
        x.poke(1, 0, 1);
        Expect.refuses("join", STATE, () -> x.join(0));
        Expect.equal("join tells it", x.badAt(), 1);
        x.poke(1, 0, 1);
        Expect.equal("join without a fault", x.join(0), 2);
        Expect.equal("ends it", x.badAt(), -1);
    }

    private static void promise17() {
        RunStore x = new RunStore(60);
        Expect.equal("no tables", x.check(), -1);
        for (int t = 0; t < 3; t++) {
            for (int k = 0; k < 6; k++) {
                x.put(k, t, 8);
            }
            x.flush();
        }
        Expect.equal("12 blocks", x.count(4), 52);
        Expect.equal("all are right", x.check(), -1);
        x.poke(20, 5, 1);
        Expect.equal("a free one", x.check(), -1);
        for (int block = 11; block >= 0; block--) {
            x.poke(block, block, 64);
            Expect.equal("the lowest one", x.check(), block);
        }
        for (int block = 0; block < 12; block++) {
            Expect.equal("the lowest one left", x.check(), block);
            x.poke(block, block, 64);
        }
        Expect.equal("all are right again", x.check(), -1);
        Expect.equal("nothing is counted", x.count(5), 0);
        x.join(0);
        x.poke(0, 0, 1);
        Expect.equal("freed by a join", x.check(), -1);
    }

    private static void promise18() {
        RunStore x = new RunStore(6);
        x.put(1, 1, 1);
        x.put(2, 2, 8);
        x.drop(2);
        counts(x, 10, 2, 39, 0, 10, 0, 0, 0);
        x.flush();
        counts(x, 10, 0, 0, 1, 9, 0, 0, 2);
        x.put(5, 5, 8);
        x.put(6, 5, 8);
        x.flush();
        counts(x, 10, 0, 0, 2, 7, 0, 0, 4);
        x.find(6);
        counts(x, 10, 0, 0, 2, 7, 2, 0, 4);
        Expect.isTrue("key 1 is not in the newer filter", !x.may(0, 1));
        x.find(1);
        counts(x, 10, 0, 0, 2, 7, 3, 1, 4);
        x.after(1);
        counts(x, 10, 0, 0, 2, 7, 6, 1, 4);
        x.join(0);
        counts(x, 10, 0, 0, 1, 8, 9, 1, 3);
        for (int what : new int[] {-1, 8, 9, Integer.MAX_VALUE, Integer.MIN_VALUE}) {
            Expect.equal("count(" + what + ")", x.count(what), -1);
        }
    }

    private static void counts(RunStore x, int... due) {
        for (int what = 0; what < due.length; what++) {
            Expect.equal("count(" + what + ")", x.count(what), due[what]);
        }
    }
}
