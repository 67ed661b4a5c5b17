/** Boundary cases of promises 6, 7 and 8: find, length and after, and of how a table is read. */
public final class EdgeReadTest {
    /** find() or length(): both read tables in the same way. */
    private interface Ask {
        long of(RunStore x, long key);
    }

    public static void main(String[] args) {
        promise6();
        promise7();
        asks(6, RunStore::find);
        asks(7, RunStore::length);
        promise8();
        promise8Tables();
        promise8Faults();
        Edge.end("EdgeReadTest");
    }

    private static void promise6() {
        Edge.test(6, "its bytes, the highest first: no byte, and eight", () -> inMemoryAndTable(x -> {
            x.put(1, -1, 0);
            x.put(2, -1, 8);
            x.put(3, Long.MIN_VALUE, 8);
            x.put(4, Long.MAX_VALUE, 8);
            x.put(5, 0, 8);
        }, x -> {
            Expect.equal("no byte", x.find(1), 0);
            Expect.equal("-1", x.find(2), -1);
            Expect.equal("the least", x.find(3), Long.MIN_VALUE);
            Expect.equal("the greatest", x.find(4), Long.MAX_VALUE);
            Expect.equal("zeros", x.find(5), 0);
        }));
        Edge.test(6, "its bytes, the highest first: the highest bit of fewer than eight is no sign", () ->
            inMemoryAndTable(x -> {
                for (int n = 1; n < 8; n++) {
                    x.put(n, -1, n);
                }
            }, x -> {
                for (int n = 1; n < 8; n++) {
                    Expect.equal(n + " bytes", x.find(n), (1L << 8 * n) - 1);
                }
            }));
        Edge.test(6, "0 when it is not there: never put, and dropped", () -> inMemoryAndTable(x -> {
            x.put(1, 5, 8);
            x.drop(1);
            x.drop(2);
        }, x -> {
            for (long key : new long[] {1, 2, 3, 0, -1, Long.MIN_VALUE, Long.MAX_VALUE}) {
                Expect.equal("find(" + key + ")", x.find(key), 0);
            }
        }));
        Edge.test(6, "0 when it is not there: right behind a find that had a value", () -> inMemoryAndTable(x -> {
            x.put(1, -1, 8);
            x.drop(2);
        }, x -> {
            for (long key : new long[] {2, 3, 100, Long.MAX_VALUE}) {
                Expect.equal("one that is there", x.find(1), -1);
                Expect.equal("one that is not", x.find(key), 0);
            }
        }));
        Edge.test(6, "a KEY (a long): the least, the greatest, 0 and next to it", () -> inMemoryAndTable(x -> {
            for (long key : new long[] {0, Long.MIN_VALUE, -1, Long.MAX_VALUE, 1}) {
                x.put(key, key, 8);
            }
        }, x -> {
            for (long key : new long[] {0, Long.MIN_VALUE, -1, Long.MAX_VALUE, 1}) {
                Expect.equal("find", x.find(key), key);
            }
        }));
    }

    private static void promise7() {
        Edge.test(7, "How many bytes a key's value has: 0 to 8", () -> inMemoryAndTable(x -> {
            for (int n = 0; n <= 8; n++) {
                x.put(n, 0, n);
            }
        }, x -> {
            for (int n = 0; n <= 8; n++) {
                Expect.equal("length", x.length(n), n);
            }
        }));
        Edge.test(7, "NONE, when it is not there: never put, and dropped", () -> inMemoryAndTable(x -> {
            x.put(1, 5, 8);
            x.drop(1);
            x.drop(2);
        }, x -> {
            for (long key : new long[] {1, 2, 3, 0, -1, Long.MIN_VALUE, Long.MAX_VALUE}) {
                Expect.equal("length(" + key + ")", x.length(key), -1);
            }
        }));
        Edge.test(7, "a KEY (a long): the least, the greatest, 0 and next to it", () -> inMemoryAndTable(x -> {
            long[] keys = {0, Long.MIN_VALUE, -1, Long.MAX_VALUE, 1};
            for (int n = 0; n < 5; n++) {
                x.put(keys[n], 1, n);
            }
        }, x -> {
            long[] keys = {0, Long.MIN_VALUE, -1, Long.MAX_VALUE, 1};
            for (int n = 0; n < 5; n++) {
                Expect.equal("length", x.length(keys[n]), n);
            }
        }));
    }

    private static void inMemoryAndTable(Edge.Run puts, Edge.Run looks) {
        RunStore x = Edge.after(9, puts);
        looks.on(x);
        x.flush();
        looks.on(x);
        for (int level = 0; level < 3; level++) {
            if (x.count(3) > 0) {
                x.join(level);
            }
            looks.on(x);
        }
    }

    private static void asks(int promise, Ask ask) {
        whatCounts(promise, ask);
        passedBy(promise, ask);
        readUntil(promise, ask);
        readEnds(promise, ask);
        faults(promise, ask);
        faultsByOrder(promise, ask);
        forged(promise, ask);
    }

    private static void whatCounts(int promise, Ask ask) {
        Edge.test(promise, "What counts for a key: memory; then level 0, the newest first; then 1, 2, 3", () -> {
            RunStore x = new RunStore(60);
            // A value of n bytes is n, so that find() and length() answer the same.
            for (int level = 3; level > 0; level--) {
                Edge.tableOf(x, 7, 3 + level, 3 + level);
                for (int to = 0; to < level; to++) {
                    x.join(to);
                }
            }
            Edge.tableOf(x, 7, 3, 3);
            Edge.tableOf(x, 7, 2, 2);
            x.put(7, 1, 1);
            Expect.equal("memory", ask.of(x, 7), 1);
            x.crash(0, -1, 0);
            Expect.equal("the newest of level 0", ask.of(x, 7), 2);
            x.drop(7);
            Expect.equal("a mark of memory", ask.of(x, 7), promise == 6 ? 0 : -1);
            x.flush();
            Expect.equal("a mark of the newest", ask.of(x, 7), promise == 6 ? 0 : -1);
        });
        for (int level = 0; level < 3; level++) {
            int before = level;
            Edge.test(promise, "the first of these that has it: level " + before + " before the next", () -> {
                RunStore x = new RunStore(60);
                Edge.tableOf(x, 7, 8, 8);
                Edge.tableOf(x, 9, 5, 5);
                for (int to = 0; to <= before; to++) {
                    x.join(to);
                }
                Edge.tableOf(x, 7, 4, 4);
                for (int to = 0; to < before; to++) {
                    x.join(to);
                }
                Expect.equal("two tables", x.count(3), 2);
                Expect.equal("the first of them", ask.of(x, 7), 4);
                Expect.equal("the second", ask.of(x, 9), 5);
            });
        }
        Edge.test(promise, "What counts for a key: memory: then no table is read or passed by", () -> {
            RunStore x = new RunStore(0);
            Edge.tableOf(x, 1, 1, 1);
            x.poke(0, 0, 1);
            x.put(1, 2, 2);
            x.drop(2);
            Expect.equal("a row", ask.of(x, 1), 2);
            Expect.equal("a mark", ask.of(x, 2), promise == 6 ? 0 : -1);
            Expect.equal("checked", x.count(5), 0);
            Expect.equal("passed by", x.count(6), 0);
            Expect.equal("badAt", x.badAt(), -1);
        });
    }

    private static void passedBy(int promise, Ask ask) {
        Edge.test(promise, "if the filter has not both bits it is passed by: neither, or one of them alone", () -> {
            for (int which = 0; which < 3; which++) {
                int[] of = Edge.bits(1);
                long key = keyWith(which == 1, which == 2, of);
                RunStore x = new RunStore(0);
                Edge.tableOf(x, 1, 1, 1);
                Expect.equal("not there", ask.of(x, key), promise == 6 ? 0 : -1);
                Expect.equal("passed by", x.count(6), 1);
                Expect.equal("checked", x.count(5), 0);
            }
        });
        Edge.test(promise, "if the filter has not both bits it is passed by: both, and it is read", () -> {
            long key = keyWith(true, true, Edge.bits(1));
            RunStore x = new RunStore(0);
            Edge.tableOf(x, 1, 1, 1);
            Expect.equal("not there", ask.of(x, key), promise == 6 ? 0 : -1);
            Expect.equal("passed by", x.count(6), 0);
            Expect.equal("checked", x.count(5), 1);
        });
        Edge.test(promise, "if the filter has not both bits it is passed by: a key whose bits are one", () -> {
            RunStore x = new RunStore(0);
            Edge.tableOf(x, 0, 3, 3);
            Expect.equal("bits of 0", Edge.bits(0)[0] * 64 + Edge.bits(0)[1], 0);
            Expect.equal("it is there", ask.of(x, 0), 3);
            Expect.equal("passed by", x.count(6), 0);
        });
        Edge.test(promise, "if the filter has not both bits it is passed by: each of 16 tables", () -> {
            RunStore x = new RunStore(124);
            Edge.tableOf(x, 2, 1, 1);
            for (int t = 1; t < 16; t++) {
                Edge.tableOf(x, 1, 1, 1);
            }
            Expect.equal("of the oldest", ask.of(x, 2), 1);
            Expect.equal("passed by", x.count(6), 15);
            Expect.equal("checked", x.count(5), 1);
        });
        Edge.test(promise, "if the filter has not both bits it is passed by: all of 16 tables", () -> {
            RunStore x = new RunStore(124);
            for (int t = 0; t < 16; t++) {
                Edge.tableOf(x, 1, 1, 1);
            }
            Expect.equal("not there", ask.of(x, 2), promise == 6 ? 0 : -1);
            Expect.equal("passed by", x.count(6), 16);
            long key = keyWith(true, true, Edge.bits(1));
            Expect.equal("not there, though in all filters", ask.of(x, key), promise == 6 ? 0 : -1);
            Expect.equal("checked", x.count(5), 16);
        });
        Edge.test(promise, "if the filter has not both bits it is passed by: altered or not", () -> {
            RunStore x = new RunStore(0);
            Edge.tableOf(x, 1, 1, 1);
            x.poke(0, 3, 1);
            Expect.equal("not there", ask.of(x, 2), promise == 6 ? 0 : -1);
            Expect.equal("badAt", x.badAt(), -1);
            Expect.equal("passed by", x.count(6), 1);
        });
    }

    /** A key above 1 whose first and second bits are among two, or are not. */
    private static long keyWith(boolean first, boolean second, int[] of) {
        for (long key = 2; key < 1000000; key++) {
            int[] b = Edge.bits(key);
            if ((b[0] == of[0] || b[0] == of[1]) == first && (b[1] == of[0] || b[1] == of[1]) == second) {
                return key;
            }
        }
        throw new IllegalStateException("no such key");
    }

    /** A key between two (neither of them) with both bits in a table's filter. */
    private static long between(RunStore x, int table, long low, long high) {
        for (long key = low + 1; key < high; key++) {
            if (x.may(table, key)) {
                return key;
            }
        }
        throw new IllegalStateException("no such key");
    }

    /** Rows 1000, 2000, 3000, 4000 of 17 bytes: in blocks 0; 0, 1; 1; 1, 2. */
    private static void fourRows(RunStore x) {
        for (int k = 1; k <= 4; k++) {
            x.put(1000 * k, k, 8);
        }
        x.flush();
    }

    private static void readUntil(int promise, Ask ask) {
        int[] blocks = {1, 2, 2, 3};
        Edge.test(promise, "its entries from the front .. until that of the key", () -> {
            for (int k = 1; k <= 4; k++) {
                RunStore x = Edge.after(0, EdgeReadTest::fourRows);
                Expect.equal("row " + k, ask.of(x, 1000 * k), promise == 6 ? k : 8);
                Expect.equal("checked", x.count(5), blocks[k - 1]);
            }
        });
        Edge.test(promise, "until that of the key, or of one above it", () -> {
            for (int k = 1; k <= 4; k++) {
                RunStore sized = Edge.after(0, EdgeReadTest::fourRows);
                long key = between(sized, 0, 1000 * k - 400, 1000 * k);
                RunStore x = Edge.after(0, EdgeReadTest::fourRows);
                Expect.equal("below row " + k, ask.of(x, key), promise == 6 ? 0 : -1);
                Expect.equal("checked", x.count(5), blocks[k - 1]);
                Expect.equal("passed by", x.count(6), 0);
            }
        });
        Edge.test(promise, "or of one above it: the least key of all, below a table's first", () -> {
            long other = -1;
            while (!Edge.passes(other, Long.MIN_VALUE)) {
                other--;
            }
            RunStore x = new RunStore(0);
            Edge.tableOf(x, other, 1, 1);
            Expect.equal("not there", ask.of(x, Long.MIN_VALUE), promise == 6 ? 0 : -1);
            Expect.equal("checked", x.count(5), 1);
            Expect.equal("passed by", x.count(6), 0);
        });
        Edge.test(promise, "or the end: above a table's last", () -> {
            long key = between(Edge.after(0, EdgeReadTest::fourRows), 0, 4000, 4400);
            RunStore x = Edge.after(0, EdgeReadTest::fourRows);
            Expect.equal("not there", ask.of(x, key), promise == 6 ? 0 : -1);
            Expect.equal("checked", x.count(5), 3);
            Expect.equal("badAt", x.badAt(), -1);
        });
        Edge.test(promise, "or the end: then the next table that counts", () -> {
            long key = between(Edge.after(0, EdgeReadTest::fourRows), 0, 4000, 4400);
            RunStore x = new RunStore(1);
            Edge.tableOf(x, key, 6, 6);
            fourRows(x);
            Expect.equal("of the older one", ask.of(x, key), 6);
            Expect.equal("checked", x.count(5), 4);
        });
    }

    private static void readEnds(int promise, Ask ask) {
        Edge.test(promise, "a block is CHECKED when the first byte of it is wanted: an entry ends with its block", () -> {
            RunStore x = new RunStore(0);
            x.put(1, 1, 8);
            x.put(2, 5, 6);
            x.put(3, 3, 8);
            x.flush();
            x.poke(1, 0, 1);
            Expect.equal("the one that ends there", ask.of(x, 2), promise == 6 ? 5 : 6);
            Expect.equal("checked", x.count(5), 1);
            Expect.equal("badAt", x.badAt(), -1);
        });
        Edge.test(promise, "a block is CHECKED when the first byte of it is wanted: an entry's last byte lies there", () -> {
            RunStore x = new RunStore(0);
            x.put(1, 1, 8);
            x.put(2, 7, 7);
            x.flush();
            Expect.equal("the one that goes on", ask.of(x, 2), 7);
            Expect.equal("checked", x.count(5), 2);
        });
        Edge.test(promise, "or the end: a last block that is full has nothing behind it", () -> {
            RunStore x = new RunStore(0);
            x.put(1, 1, 8);
            x.put(2, 2, 6);
            x.flush();
            long key = between(x, 0, 2, 4000);
            Expect.equal("not there", ask.of(x, key), promise == 6 ? 0 : -1);
            Expect.equal("checked", x.count(5), 1);
            Expect.equal("badAt", x.badAt(), -1);
        });
        Edge.test(promise, "behind the last entry 0: is no row of key 0", () -> {
            long below = 0;
            do {
                below--;
            } while (!Edge.passes(below, 0));
            RunStore x = new RunStore(0);
            x.put(below, 1, 1);
            x.flush();
            Expect.equal("not there", ask.of(x, 0), promise == 6 ? 0 : -1);
            Expect.equal("checked", x.count(5), 1);
            Expect.equal("length", x.length(0), -1);
        });
        Edge.test(promise, "a block is CHECKED: each time that it is wanted anew", () -> {
            RunStore x = Edge.after(0, EdgeReadTest::fourRows);
            for (int round = 1; round <= 5; round++) {
                ask.of(x, 4000);
                Expect.equal("checked", x.count(5), 3 * round);
            }
        });
    }

    private static void faults(int promise, Ask ask) {
        Edge.test(promise, "IllegalStateException for a fault: the first block", () ->
            Edge.fault(0, x -> {
                fourRows(x);
                x.poke(0, 0, 1);
            }, x -> ask.of(x, 1000), 0, 1, 0));
        Edge.test(promise, "IllegalStateException for a fault: the last block, in the last byte, behind all entries", () ->
            Edge.fault(0, x -> {
                fourRows(x);
                x.poke(2, 31, 128);
            }, x -> ask.of(x, 4000), 2, 3, 0));
        Edge.test(promise, "IllegalStateException for a fault: each byte of a block", () -> {
            for (int i = 0; i < 32; i++) {
                RunStore x = new RunStore(0);
                Edge.tableOf(x, 1, 5, 5);
                x.poke(0, i, 1 << i % 8);
                Expect.refuses("byte " + i, Edge.STATE, () -> ask.of(x, 1));
                Expect.equal("its block", x.badAt(), 0);
                x.poke(0, i, 1 << i % 8);
                Expect.equal("right again", ask.of(x, 1), 5);
                Expect.equal("no fault", x.badAt(), -1);
            }
        });
        Edge.test(promise, "a block is CHECKED when the first byte of it is wanted: not wanted, no fault", () -> {
            RunStore x = Edge.after(0, EdgeReadTest::fourRows);
            x.poke(1, 0, 1);
            x.poke(2, 0, 1);
            Expect.equal("row 1", ask.of(x, 1000), promise == 6 ? 1 : 8);
            Expect.equal("badAt", x.badAt(), -1);
            x.poke(1, 0, 1);
            Expect.equal("row 3", ask.of(x, 3000), promise == 6 ? 3 : 8);
            Expect.equal("badAt", x.badAt(), -1);
        });
        Edge.test(promise, "each one whole (key, length, value): that of the key goes on in an altered block", () ->
            Edge.fault(0, x -> {
                fourRows(x);
                x.poke(1, 31, 1);
            }, x -> ask.of(x, 2000), 1, 2, 0));
        Edge.test(promise, "each one whole (key, length, value): one above it goes on in an altered block", () -> {
            long key = between(Edge.after(0, EdgeReadTest::fourRows), 0, 1600, 2000);
            Edge.fault(0, x -> {
                fourRows(x);
                x.poke(1, 31, 1);
            }, x -> ask.of(x, key), 1, 2, 0);
        });
    }

    private static void faultsByOrder(int promise, Ask ask) {
        Edge.test(promise, "IllegalStateException for a fault: of several blocks the first one wanted", () ->
            Edge.fault(0, x -> {
                fourRows(x);
                x.poke(2, 5, 1);
                x.poke(1, 5, 1);
            }, x -> ask.of(x, 4000), 1, 2, 0));
        Edge.test(promise, "IllegalStateException for a fault: in a newer table, though an older one has the key", () ->
            Edge.fault(3, x -> {
                Edge.tableOf(x, 4000, 1, 1);
                fourRows(x);
                x.poke(1, 0, 1);
            }, x -> ask.of(x, 4000), 1, 1, 0));
        Edge.test(promise, "the first of these that has it: a fault behind it is not come upon", () -> {
            RunStore x = new RunStore(3);
            Edge.tableOf(x, 4000, 1, 1);
            fourRows(x);
            x.poke(0, 0, 1);
            Expect.equal("of the newer one", ask.of(x, 4000), promise == 6 ? 4 : 8);
            Expect.equal("badAt", x.badAt(), -1);
        });
        Edge.test(promise, "What faults .. changes nothing but badAt() and counts: tables passed by before it are counted", () ->
            Edge.fault(9, x -> {
                Edge.tableOf(x, 1, 1, 1);
                for (int t = 0; t < 3; t++) {
                    Edge.tableOf(x, 2, 2, 2);
                }
                x.poke(0, 0, 1);
            }, x -> ask.of(x, 1), 0, 1, 3));
        Edge.test(promise, "badAt() tells that block: the block's own number, of blocks that lie apart", () ->
            Edge.fault(3, x -> {
                Edge.putKeys(x, 1, 2, 8);
                x.flush();
                x.join(0);
                // that is in 2 and 3; the next one in 0, 1, 4
                fourRows(x);
                x.poke(4, 0, 1);
            }, x -> ask.of(x, 4000), 4, 3, 0));
        Edge.test(promise, "IllegalStateException for a fault: the last block of all, B - 1", () ->
            Edge.fault(124, x -> {
                for (int t = 0; t < 9; t++) {
                    Edge.putKeys(x, 100 * t, 24, 8);
                    x.flush();
                }
                Edge.putKeys(x, 5000, 20, 8);
                Expect.equal("340 bytes take the rest", x.flush(), 11);
                x.poke(127, 31, 1);
            }, x -> ask.of(x, 5019), 127, 11, 0));
    }

    private static void forged(int promise, Ask ask) {
        Edge.test(promise, "An entry whose length is none .. is a fault, too, of the block of that length", () -> {
            for (int length : new int[] {9, 16, 128, 254}) {
                Edge.Run run = Forge.run(0, x -> Edge.tableOf(x, 1, 77, 8), 0, 0, 8, 8 ^ length, 9);
                Edge.fault(0, run, x -> ask.of(x, 1), 0, 1, 0);
            }
        });
        Edge.test(promise, "LENGTH (0 .. 8, or 255: dropped): those that are, are no fault", () -> {
            for (int length = 0; length < 8; length++) {
                Edge.Run run = Forge.run(0, x -> Edge.tableOf(x, 1, 77, 8), 0, 0, 8, 8 ^ length, 17);
                RunStore x = Edge.after(0, run);
                Expect.equal("length " + length, ask.of(x, 1), promise == 6 ? 0 : length);
                Expect.equal("badAt", x.badAt(), -1);
            }
            RunStore y = Edge.after(0, Forge.run(0, x -> Edge.tableOf(x, 1, 77, 8), 0, 0, 8, 8 ^ 255, 17));
            Expect.equal("a mark", ask.of(y, 1), promise == 6 ? 0 : -1);
        });
        Edge.test(promise, "of the block of that length: it is a block's last byte, or the next one's first", () -> {
            for (int edge = 0; edge < 2; edge++) {
                Edge.fault(0, Forge.lengthAtEdge(edge), x -> ask.of(x, 5), 1 + edge, 2 + edge, 0);
            }
        });
        Edge.test(promise, "that goes beyond the last block, is a fault, too, .. of the last one: by a byte", () -> {
            Edge.Run two = x -> {
                x.put(1, 1, 8);
                x.put(2, 2, 6);
                x.flush();
            };
            Edge.Run run = Forge.run(0, two, 0, 0, 25, 6 ^ 7, 9);
            Edge.fault(0, run, x -> ask.of(x, 2), 0, 1, 0);
            Expect.equal("the one before is no fault", Edge.after(0, run).length(1), 8);
        });
        Edge.test(promise, "that goes beyond the last block, is a fault, too, .. of the last one: of two", () -> {
            Edge.Run rows = x -> {
                for (int k = 1; k <= 3; k++) {
                    x.put(k, k, 8);
                }
                x.put(4, 4, 4);
                x.flush();
            };
            // 64 bytes: the last entry begins at 51, its length is byte 27 of block 1
            Edge.Run run = Forge.run(0, rows, 1, 1, 27, 4 ^ 5, 12);
            Edge.fault(0, run, x -> ask.of(x, 4), 1, 2, 0);
        });
        Edge.test(promise, "that goes beyond the last block, is a fault, too, .. of the last one: it begins there", () -> {
            Edge.Run three = x -> {
                x.put(1, 0, 0);
                x.put(2, 0, 0);
                x.put(6, 0, 5);
                x.flush();
            };
            // With 8 bytes for the first one the second is read from 17, with a length of 6, up to the end.
            Edge.Run run = Forge.run(0, three, 0, 0, 8, 8, 9);
            Edge.fault(0, run, x -> ask.of(x, 6), 0, 1, 0);
        });
    }

    private static void promise8() {
        Edge.test(8, "The least key above one: itself, and next to it", () -> inMemoryAndTable(x -> {
            x.put(5, 1, 1);
            x.put(6, 1, 1);
        }, x -> {
            Expect.equal("two below", x.after(3), 5);
            Expect.equal("one below", x.after(4), 5);
            Expect.equal("itself does not count", x.after(5), 6);
        }));
        Edge.test(8, "the key itself, when there is none", () -> inMemoryAndTable(x -> {
            x.put(5, 1, 1);
            x.drop(9);
        }, x -> {
            for (long key : new long[] {5, 6, 8, 9, 10, Long.MAX_VALUE}) {
                Expect.equal("after(" + key + ")", x.after(key), key);
            }
        }));
        Edge.test(8, "The least key above one: the least and the greatest of all", () -> inMemoryAndTable(x -> {
            x.put(Long.MIN_VALUE, 1, 1);
            x.put(Long.MAX_VALUE, 1, 1);
        }, x -> {
            Expect.equal("above the least", x.after(Long.MIN_VALUE), Long.MAX_VALUE);
            Expect.equal("below the greatest", x.after(Long.MAX_VALUE - 1), Long.MAX_VALUE);
            Expect.equal("above the greatest", x.after(Long.MAX_VALUE), Long.MAX_VALUE);
        }));
        Edge.test(8, "The least key above one: from below 0 to above", () -> inMemoryAndTable(x -> {
            x.put(-1, 1, 1);
            x.put(0, 1, 1);
            x.put(1, 1, 1);
        }, x -> {
            Expect.equal("above -2", x.after(-2), -1);
            Expect.equal("above -1", x.after(-1), 0);
            Expect.equal("above 0", x.after(0), 1);
        }));
        Edge.test(8, "that is there (not dropped): marks are passed over", () -> inMemoryAndTable(x -> {
            x.put(1, 1, 1);
            x.drop(2);
            x.drop(3);
            x.put(4, 1, 0);
            x.drop(5);
        }, x -> {
            Expect.equal("over two marks", x.after(1), 4);
            Expect.equal("from a mark", x.after(2), 4);
            Expect.equal("over a last mark", x.after(4), 4);
            Expect.equal("from a last mark", x.after(5), 5);
        }));
        Edge.test(8, "that is there (not dropped): a value of no bytes is there", () -> {
            RunStore x = new RunStore(0);
            x.put(3, 0, 0);
            Expect.equal("after", x.after(2), 3);
        });
    }

    private static void promise8Tables() {
        Edge.test(8, "that is there (not dropped): what counts first tells it", () -> {
            RunStore x = new RunStore(60);
            x.put(1, 1, 1);
            x.drop(2);
            x.put(3, 3, 1);
            x.flush();
            x.drop(1);
            x.put(2, 2, 1);
            x.flush();
            Expect.equal("a newer mark, a newer row", x.after(0), 2);
            x.drop(2);
            Expect.equal("a mark of memory", x.after(0), 3);
            x.put(1, 1, 1);
            Expect.equal("a row of memory", x.after(0), 1);
        });
        Edge.test(8, "that is there (not dropped): over all levels", () -> {
            RunStore x = new RunStore(60);
            for (int level = 3; level > 0; level--) {
                Edge.tableOnLevel(x, level, 10 + level, 1);
            }
            Edge.tableOf(x, 15, 1, 1);
            Edge.tableOf(x, 14, 1, 1);
            x.put(16, 1, 1);
            for (int key = 10; key < 16; key++) {
                Expect.equal("after(" + key + ")", x.after(key), key + 1);
            }
        });
        Edge.test(8, "All tables are read from their front to their end: whatever the key", () -> {
            for (long key : new long[] {Long.MIN_VALUE, 999, 1000, 4000, Long.MAX_VALUE}) {
                RunStore x = new RunStore(9);
                fourRows(x);
                Edge.tableOf(x, 1, 1, 1);
                x.put(key + 1, 1, 1);
                x.after(key);
                Expect.equal("checked", x.count(5), 4);
                Expect.equal("passed by", x.count(6), 0);
            }
        });
        Edge.test(8, "All tables are read: 16 of them", () -> {
            RunStore x = new RunStore(124);
            for (int t = 0; t < 16; t++) {
                Edge.tableOf(x, 100 - t, t, 1);
            }
            Expect.equal("the newest has the least", x.after(0), 85);
            Expect.equal("checked", x.count(5), 16);
            Expect.equal("the oldest has the greatest", x.after(99), 100);
        });
        Edge.test(8, "All tables are read: 16 of them with 24 rows each, and memory full", () -> {
            RunStore x = new RunStore(124);
            for (int t = 0; t < 17; t++) {
                if (t > 0) {
                    Expect.equal("flush", x.flush(), 7);
                }
                Edge.putKeys(x, 1000 - 24 * t, 24, 0);
            }
            Expect.equal("memory has the least", x.after(Long.MIN_VALUE), 616);
            Expect.equal("checked", x.count(5), 16 * 7);
            Expect.equal("from memory to the newest", x.after(639), 640);
            Expect.equal("the oldest table", x.after(999), 1000);
            Expect.equal("has the greatest", x.after(1022), 1023);
            Expect.equal("none above it", x.after(1023), 1023);
        });
        Edge.test(8, "All tables are read: none", () -> {
            RunStore x = new RunStore(0);
            x.put(5, 1, 1);
            Expect.equal("memory's", x.after(4), 5);
            Expect.equal("checked", x.count(5), 0);
        });
        Edge.test(8, "behind the last entry 0: is no row of key 0", () -> {
            RunStore x = new RunStore(0);
            x.put(-5, 1, 1);
            x.flush();
            Expect.equal("after", x.after(-5), -5);
            Expect.equal("after what is below it", x.after(-6), -5);
        });
    }

    private static void promise8Faults() {
        Edge.test(8, "in the order in which they count: a fault of the newest first", () -> {
            int[] order = {3, 4, 5, 0, 1, 2};
            for (int first = 0; first < order.length; first++) {
                int from = first;
                Edge.fault(9, x -> {
                    fourRows(x);
                    fourRows(x);
                    for (int i = order.length - 1; i >= from; i--) {
                        x.poke(order[i], 31, 1);
                    }
                }, x -> x.after(Long.MAX_VALUE), order[from], from + 1, 0);
            }
        });
        Edge.test(8, "in the order in which they count: level 0, then 1, 2, 3", () -> {
            for (int level = 0; level <= 3; level++) {
                int of = level;
                Edge.fault(9, x -> {
                    for (int to = 3; to > 0; to--) {
                        Edge.tableOnLevel(x, to, to, 1);
                    }
                    Edge.tableOf(x, 0, 0, 1);
                    for (int t = of; t <= 3; t++) {
                        x.poke(x.table(t, 3), 0, 1);
                    }
                }, x -> x.after(0), blockOfLevel(of), of + 1, 0);
            }
        });
        Edge.test(8, "IllegalStateException for a fault: memory's row does not spare it", () ->
            Edge.fault(0, x -> {
                Edge.tableOf(x, 1, 1, 1);
                x.poke(0, 31, 1);
                x.put(1, 2, 1);
                x.put(2, 2, 1);
            }, x -> x.after(1), 0, 1, 0));
        Edge.test(8, "IllegalStateException for a fault: a free block is none", () -> {
            RunStore x = new RunStore(0);
            Edge.tableOf(x, 1, 1, 1);
            x.join(0);
            x.poke(0, 0, 1);
            x.poke(2, 0, 1);
            Expect.equal("after", x.after(0), 1);
            Expect.equal("badAt", x.badAt(), -1);
        });
        Edge.test(8, "An entry whose length is none .. is a fault, too, of the block of that length", () -> {
            for (int length : new int[] {9, 254}) {
                Edge.Run run = Forge.run(0, x -> Edge.tableOf(x, 1, 77, 8), 0, 0, 8, 8 ^ length, 9);
                Edge.fault(0, run, x -> x.after(5), 0, 1, 0);
            }
            for (int edge = 0; edge < 2; edge++) {
                Edge.fault(0, Forge.lengthAtEdge(edge), x -> x.after(1), 1 + edge, 2 + edge, 0);
            }
        });
        Edge.test(8, "that goes beyond the last block, is a fault, too, .. of the last one", () -> {
            Edge.Run two = x -> {
                x.put(1, 1, 8);
                x.put(2, 2, 6);
                x.flush();
            };
            Edge.fault(0, Forge.run(0, two, 0, 0, 25, 6 ^ 7, 9), x -> x.after(5), 0, 1, 0);
        });
        Edge.test(8, "in the order in which they count: a length of a newer table before a sum of an older one", () -> {
            Edge.Run forged = Forge.run(0, x -> {
                Edge.tableOf(x, 1, 1, 8);
                Edge.tableOf(x, 2, 77, 8);
            }, 1, 0, 8, 1, 9);
            Edge.fault(0, x -> {
                forged.on(x);
                x.poke(0, 31, 1);
            }, x -> x.after(0), 1, 1, 0);
        });
    }

    /** The block that a level's table has, when 3, 2, 1 and then 0 were made in that order. */
    private static int blockOfLevel(int level) {
        RunStore x = new RunStore(9);
        for (int to = 3; to > 0; to--) {
            Edge.tableOnLevel(x, to, to, 1);
        }
        Edge.tableOf(x, 0, 0, 1);
        return x.table(level, 3);
    }
}
