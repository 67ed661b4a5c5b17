/** Boundary cases of promises 1, 2 and 3: a new object, put and drop. */
public final class EdgeRowsTest {
    private static final long ALL = -1L;

    public static void main(String[] args) {
        promise1();
        promise2Values();
        promise2Log();
        promise2Refusals();
        promise3();
        promise3Refusals();
        Edge.end("EdgeRowsTest");
    }

    private static void promise1() {
        Edge.test(1, "B is 4 + blocks modulo 125: the fewest", () -> {
            blocksOf(0, 4);
            blocksOf(125, 4);
            blocksOf(250, 4);
        });
        Edge.test(1, "B is 4 + blocks modulo 125: the most", () -> {
            blocksOf(124, 128);
            blocksOf(249, 128);
        });
        Edge.test(1, "B is 4 + blocks modulo 125: next to these", () -> {
            blocksOf(1, 5);
            blocksOf(123, 127);
            blocksOf(126, 5);
        });
        Edge.test(1, "the rest not below 0", () -> {
            blocksOf(-1, 128);
            blocksOf(-124, 5);
            blocksOf(-125, 4);
            blocksOf(-126, 128);
        });
        Edge.test(1, "B is 4 + blocks modulo 125: the least and the greatest int", () -> {
            blocksOf(Edge.MAX, 26);
            blocksOf(Edge.MIN, 106);
        });
        Edge.test(1, "No rows", EdgeRowsTest::noRows);
    }

    private static void blocksOf(int blocks, int due) {
        RunStore x = new RunStore(blocks);
        String name = "RunStore(" + blocks + ") ";
        Expect.equal(name + "B", x.count(0), due);
        Expect.equal(name + "free blocks", x.count(4), due);
        Expect.equal(name + "the last byte", x.byteAt(due - 1, 31), 0);
        Expect.equal(name + "the last sum", x.sum(due - 1), 0);
        Expect.refuses(name + "a sum behind it", Edge.INDEX, () -> x.sum(due));
        Expect.refuses(name + "a byte behind it", Edge.INDEX, () -> x.byteAt(due, 0));
    }

    private static void noRows() {
        RunStore x = new RunStore(0);
        for (int what : new int[] {1, 2, 3, 5, 6, 7}) {
            Expect.equal("count(" + what + ")", x.count(what), 0);
        }
        for (long key : new long[] {Long.MIN_VALUE, -1, 0, 1, Long.MAX_VALUE}) {
            Expect.equal("length", x.length(key), -1);
            Expect.equal("find", x.find(key), 0);
            Expect.equal("after", x.after(key), key);
        }
        Expect.equal("badAt", x.badAt(), -1);
        Expect.equal("check", x.check(), -1);
        Expect.refuses("logged", Edge.INDEX, () -> x.logged(0));
        Expect.refuses("table", Edge.INDEX, () -> x.table(0, 0));
        Expect.refuses("may", Edge.INDEX, () -> x.may(0, 0));
        Expect.refuses("flush", Edge.STATE, x::flush);
        Expect.refuses("join", Edge.STATE, () -> x.join(0));
        Expect.equal("crash", x.crash(0, -1, 0), 0);
    }

    private static void promise2Values() {
        Edge.test(2, "the lowest n bytes of v: each n, of ones", () -> {
            RunStore x = new RunStore(0);
            long due = 0;
            for (int n = 0; n <= 8; n++) {
                Expect.equal("put", x.put(7, ALL, n), 1);
                Expect.equal("find of " + n, x.find(7), due);
                Expect.equal("length of " + n, x.length(7), n);
                due = due * 256 + 255;
            }
        });
        Edge.test(2, "the lowest n bytes of v: what is above them is left out", () -> {
            RunStore x = new RunStore(0);
            x.put(1, 0x100, 1);
            x.put(2, 0x0102030405060708L, 4);
            x.put(3, Long.MIN_VALUE, 7);
            x.put(4, Long.MIN_VALUE, 8);
            Expect.equal("one byte", x.find(1), 0);
            Expect.equal("four bytes", x.find(2), 0x05060708L);
            Expect.equal("seven bytes", x.find(3), 0);
            Expect.equal("eight bytes", x.find(4), Long.MIN_VALUE);
        });
        Edge.test(2, "a VALUE of 0 to 8 bytes: of none, whatever v is", () -> {
            RunStore x = new RunStore(0);
            Expect.equal("put", x.put(1, ALL, 0), 1);
            Expect.equal("it is there", x.length(1), 0);
            Expect.equal("as a number", x.find(1), 0);
        });
        Edge.test(2, "how many keys memory has: from 1 to 24, again and again the same", () -> {
            RunStore x = new RunStore(0);
            for (int k = 1; k <= 24; k++) {
                Expect.equal("put of a new one", x.put(-k, k, 1), k);
                Expect.equal("put of it again", x.put(-k, k, 2), k);
            }
        });
        Edge.test(2, "a KEY (a long): the least and the greatest", () -> {
            RunStore x = new RunStore(0);
            x.put(Long.MAX_VALUE, 1, 1);
            x.put(Long.MIN_VALUE, 2, 1);
            Expect.equal("both", x.count(1), 2);
            Expect.equal("the greatest", x.find(Long.MAX_VALUE), 1);
            Expect.equal("the least", x.find(Long.MIN_VALUE), 2);
        });
        Edge.test(2, "the key's value: a dropped key is there again", () -> {
            RunStore x = new RunStore(0);
            x.drop(5);
            Expect.equal("put", x.put(5, 0, 0), 1);
            Expect.equal("its length", x.length(5), 0);
        });
    }

    private static void promise2Log() {
        Edge.test(2, "of each put() .. an entry: bytes, the highest first", () -> {
            RunStore x = new RunStore(0);
            x.put(Long.MIN_VALUE + 1, 0x8182838485868788L, 8);
            x.put(-1, 0x8182, 2);
            x.put(0, 7, 0);
            Edge.log(x, 128, 0, 0, 0, 0, 0, 0, 1, 8, 129, 130, 131, 132, 133, 134, 135, 136, 173,
                255, 255, 255, 255, 255, 255, 255, 255, 2, 129, 130, 253,
                0, 0, 0, 0, 0, 0, 0, 0, 0, 0);
        });
        Edge.test(2, "the sum of the entry's bytes, its lowest 8 bits: 255, 256, 257", () -> {
            RunStore x = new RunStore(0);
            x.put(255, 0, 0);
            Expect.equal("255", x.logged(9), 255);
            x.put(255, 0, 1);
            Expect.equal("256", x.logged(20), 0);
            x.put(255, 1, 1);
            Expect.equal("257", x.logged(31), 1);
            x.put(ALL, ALL, 8);
            Expect.equal("4088", x.logged(49), 248);
        });
        Edge.test(2, "of each put() .. an entry: of the same key, too", () -> {
            RunStore x = new RunStore(0);
            x.put(3, 4, 1);
            x.put(3, 4, 1);
            Edge.log(x, Edge.joined(Edge.logEntry(3, 4, 1), Edge.logEntry(3, 4, 1)));
        });
        Edge.test(2, "THE LOG has up to 1024 bytes: the last one is taken", () -> {
            for (int n = 0; n <= 8; n++) {
                RunStore x = new RunStore(0);
                Edge.fillLog(x, 1024 - 10 - n);
                Expect.equal("put that fits just so", x.put(1, n, n), 2);
                Expect.equal("a full log", x.count(2), 1024);
                Expect.equal("its last byte", x.logged(1023), Edge.logEntry(1, n, n)[9 + n]);
                Expect.equal("its row", x.length(1), n);
            }
        });
    }

    private static void promise2Refusals() {
        Edge.test(2, "IllegalArgumentException, when n is not 0 .. 8", () -> {
            for (int n : new int[] {-1, 9, 10, 255, 256, 264, -248, Edge.MIN, Edge.MAX}) {
                Edge.refused(Edge.ARGUMENT, 0, x -> x.put(1, 1, 1), x -> x.put(1, 2, n));
                Edge.refused(Edge.ARGUMENT, 0, x -> x.put(1, 1, 1), x -> x.put(2, 2, n));
            }
        });
        Edge.test(2, "UnsupportedOperationException, when memory has 24 keys, and not this one", () -> {
            for (long key : new long[] {Long.MIN_VALUE, 0, 11, 49, Long.MAX_VALUE}) {
                Edge.refused(Edge.UNSUPPORTED, 0, EdgeRowsTest::evenKeys, x -> x.put(key, 1, 0));
            }
        });
        Edge.test(2, "when memory has 24 keys, and not this one: marks are keys, too", () -> {
            Edge.refused(Edge.UNSUPPORTED, 0, EdgeRowsTest::marks, x -> x.put(25, 1, 0));
            RunStore x = Edge.after(0, EdgeRowsTest::marks);
            Expect.equal("one that is marked", x.put(24, 5, 1), 24);
            Expect.equal("is there", x.find(24), 5);
        });
        Edge.test(2, "when memory has 24 keys, and not this one: this one is taken", () -> {
            for (long key : new long[] {2, 24, 48}) {
                RunStore x = Edge.after(0, EdgeRowsTest::evenKeys);
                Expect.equal("put", x.put(key, 200, 1), 24);
                Expect.equal("its value", x.find(key), 200);
            }
        });
        Edge.test(2, "when memory has 24 keys, and not this one: one of a table is not this one", () -> {
            Edge.refused(Edge.UNSUPPORTED, 0, x -> {
                Edge.tableOf(x, 1, 1, 1);
                evenKeys(x);
            }, x -> x.put(1, 2, 1));
        });
        Edge.test(2, "when memory has 24 keys, and not this one: room again after flush()", () -> {
            RunStore x = Edge.after(9, EdgeRowsTest::evenKeys);
            x.flush();
            Expect.equal("put", x.put(1, 1, 1), 1);
        });
        Edge.test(2, "or the log has no room: a byte too few", () -> {
            for (int n = 0; n <= 8; n++) {
                int size = n;
                Edge.refused(Edge.UNSUPPORTED, 0, x -> Edge.fillLog(x, 1015 - size), x -> x.put(1, 1, size));
            }
        });
        Edge.test(2, "or the log has no room: for a key that memory has, too", () -> {
            Edge.refused(Edge.UNSUPPORTED, 0, x -> Edge.fillLog(x, 1015), x -> x.put(0, 9, 0));
            Edge.refused(Edge.UNSUPPORTED, 0, x -> Edge.fillLog(x, 1024), x -> x.put(0, 9, 0));
        });
        Edge.test(2, "or the log has no room: a shorter value may have it", () -> {
            RunStore x = Edge.after(0, y -> Edge.fillLog(y, 1010));
            Expect.refuses("five bytes", Edge.UNSUPPORTED, () -> x.put(1, 1, 5));
            Expect.equal("four bytes", x.put(1, 1, 4), 2);
        });
        Edge.test(2, "or the log has no room: room again after flush() and crash()", () -> {
            RunStore x = Edge.after(0, y -> Edge.fillLog(y, 1024));
            x.crash(1023, -1, 0);
            Expect.equal("put after a cut", x.put(1, 1, 0), 2);
            x.flush();
            Expect.equal("put after flush", x.put(1, 1, 8), 1);
        });
        Edge.test(2, "Of several exceptions the first one told is thrown", () -> {
            Edge.refused(Edge.ARGUMENT, 0, EdgeRowsTest::evenKeys, x -> x.put(1, 1, 9));
            Edge.refused(Edge.ARGUMENT, 0, x -> Edge.fillLog(x, 1024), x -> x.put(1, 1, -1));
        });
    }

    private static void evenKeys(RunStore x) {
        for (int k = 1; k <= 24; k++) {
            x.put(2 * k, k, 1);
        }
    }

    private static void marks(RunStore x) {
        for (int k = 1; k <= 24; k++) {
            Expect.equal("drop", x.drop(k), k);
        }
    }

    private static void promise3() {
        Edge.test(3, "memory marks it, whether it was there or not: it was not", () -> {
            RunStore x = new RunStore(0);
            Expect.equal("drop", x.drop(5), 1);
            Expect.equal("keys of memory", x.count(1), 1);
            Expect.equal("its length", x.length(5), -1);
            Expect.equal("its value", x.find(5), 0);
            Expect.equal("a table has the mark", x.flush(), 1);
            Expect.equal("its length byte", x.byteAt(0, 8), 255);
        });
        Edge.test(3, "memory marks it, whether it was there or not: it was in memory", () -> {
            RunStore x = new RunStore(0);
            x.put(5, ALL, 8);
            Expect.equal("drop", x.drop(5), 1);
            Expect.equal("its length", x.length(5), -1);
            Expect.equal("its value", x.find(5), 0);
            Expect.equal("after", x.after(4), 4);
        });
        Edge.test(3, "memory marks it, whether it was there or not: it was in a table", () -> {
            RunStore x = new RunStore(0);
            Edge.tableOf(x, 5, 6, 1);
            Expect.equal("drop", x.drop(5), 1);
            Expect.equal("its length", x.length(5), -1);
            Expect.equal("its value", x.find(5), 0);
            Expect.equal("after", x.after(4), 4);
        });
        Edge.test(3, "memory marks it, whether it was there or not: it was dropped", () -> {
            RunStore x = new RunStore(0);
            x.drop(5);
            Expect.equal("drop again", x.drop(5), 1);
            Edge.log(x, Edge.joined(Edge.logEntry(5, 0, Edge.DROPPED), Edge.logEntry(5, 0, Edge.DROPPED)));
        });
        Edge.test(3, "255: dropped: an entry without a value, and its sum", () -> {
            RunStore x = new RunStore(0);
            x.drop(0);
            x.drop(1);
            x.drop(ALL);
            Edge.log(x, 0, 0, 0, 0, 0, 0, 0, 0, 255, 255, 0, 0, 0, 0, 0, 0, 0, 1, 255, 0,
                255, 255, 255, 255, 255, 255, 255, 255, 255, 247);
        });
        Edge.test(3, "a KEY (a long): the least and the greatest", () -> {
            RunStore x = new RunStore(0);
            x.put(Long.MIN_VALUE, 1, 1);
            x.put(Long.MAX_VALUE, 1, 1);
            Expect.equal("drop of the least", x.drop(Long.MIN_VALUE), 2);
            Expect.equal("drop of the greatest", x.drop(Long.MAX_VALUE), 2);
            Expect.equal("the least", x.length(Long.MIN_VALUE), -1);
            Expect.equal("the greatest", x.length(Long.MAX_VALUE), -1);
        });
        Edge.test(3, "how many keys memory has: from 1 to 24", () -> {
            RunStore x = Edge.after(0, EdgeRowsTest::marks);
            Expect.equal("keys", x.count(1), 24);
        });
        Edge.test(3, "THE LOG has up to 1024 bytes: the last one is taken", () -> {
            RunStore x = Edge.after(0, y -> Edge.fillLog(y, 1014));
            Expect.equal("drop that fits just so", x.drop(1), 2);
            Expect.equal("a full log", x.count(2), 1024);
            Expect.equal("its last byte", x.logged(1023), 0);
            Expect.equal("the byte before", x.logged(1022), 255);
        });
    }

    private static void promise3Refusals() {
        Edge.test(3, "UnsupportedOperationException, when memory has 24 keys, and not this one", () -> {
            for (long key : new long[] {Long.MIN_VALUE, 0, 11, 49, Long.MAX_VALUE}) {
                Edge.refused(Edge.UNSUPPORTED, 0, EdgeRowsTest::evenKeys, x -> x.drop(key));
            }
        });
        Edge.test(3, "when memory has 24 keys, and not this one: marks are keys, too", () ->
            Edge.refused(Edge.UNSUPPORTED, 0, EdgeRowsTest::marks, x -> x.drop(25)));
        Edge.test(3, "when memory has 24 keys, and not this one: one of a table is not this one", () ->
            Edge.refused(Edge.UNSUPPORTED, 0, x -> {
                Edge.tableOf(x, 1, 1, 1);
                evenKeys(x);
            }, x -> x.drop(1)));
        Edge.test(3, "when memory has 24 keys, and not this one: this one is dropped", () -> {
            for (long key : new long[] {2, 24, 48}) {
                RunStore x = Edge.after(0, EdgeRowsTest::evenKeys);
                Expect.equal("drop", x.drop(key), 24);
                Expect.equal("its length", x.length(key), -1);
            }
            RunStore y = Edge.after(0, EdgeRowsTest::marks);
            Expect.equal("drop of what is marked", y.drop(24), 24);
        });
        Edge.test(3, "or the log has no room", () -> {
            for (int filled : new int[] {1015, 1020, 1024}) {
                Edge.refused(Edge.UNSUPPORTED, 0, x -> Edge.fillLog(x, filled), x -> x.drop(1));
                Edge.refused(Edge.UNSUPPORTED, 0, x -> Edge.fillLog(x, filled), x -> x.drop(0));
            }
        });
        Edge.test(3, "or the log has no room: room again after flush() and crash()", () -> {
            RunStore x = Edge.after(0, y -> Edge.fillLog(y, 1024));
            x.crash(1023, -1, 0);
            Expect.equal("drop after a cut", x.drop(1), 2);
            x.flush();
            Expect.equal("drop after flush", x.drop(1), 1);
        });
    }
}
