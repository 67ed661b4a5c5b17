/** Boundary cases of promise 4: flush, and of the terms that it uses (tables, blocks, sums, filters). */
public final class EdgeFlushTest {
    public static void main(String[] args) {
        answers();
        tables();
        places();
        sums();
        refusals();
        refusalsAndRoom();
        Edge.end("EdgeFlushTest");
    }

    private static void answers() {
        Edge.test(4, "how many blocks it took: the least table", () -> {
            RunStore x = new RunStore(0);
            x.put(0, 0, 0);
            Expect.equal("a row of no bytes", x.flush(), 1);
            x.drop(0);
            Expect.equal("a mark alone", x.flush(), 1);
            Expect.equal("entries of both", x.count(7), 2);
        });
        Edge.test(4, "how many blocks it took: 31 to 65 bytes", () -> {
            Expect.equal("31", flushOf(8, 5), 1);
            Expect.equal("32", flushOf(8, 6), 1);
            Expect.equal("33", flushOf(8, 7), 2);
            Expect.equal("63", flushOf(8, 8, 8, 3), 2);
            Expect.equal("64", flushOf(8, 8, 8, 4), 2);
            Expect.equal("65", flushOf(8, 8, 8, 5), 3);
        });
        Edge.test(4, "how many blocks it took: the greatest table", () -> {
            RunStore x = new RunStore(9);
            Edge.putKeys(x, 0, 24, 8);
            Expect.equal("408 bytes", x.flush(), 13);
            Expect.equal("none is left", x.count(4), 0);
            Expect.equal("its entries", x.table(0, 1), 24);
        });
        Edge.test(4, "how many blocks it took: 24 marks", () -> {
            RunStore x = new RunStore(9);
            for (int k = 0; k < 24; k++) {
                x.drop(k);
            }
            Expect.equal("216 bytes", x.flush(), 7);
        });
        Edge.test(4, "the log is empty", () -> {
            RunStore x = Edge.after(0, y -> Edge.fillLog(y, 1024));
            x.flush();
            Edge.log(x);
            Expect.refuses("a crash that keeps a byte", Edge.ARGUMENT, () -> x.crash(1, -1, 0));
            Expect.equal("a crash", x.crash(0, -1, 0), 0);
            Edge.fillLog(x, 1024);
        });
        Edge.test(4, "Memory becomes the newest table: memory has no keys then, and takes 24", () -> {
            RunStore x = new RunStore(124);
            Edge.putKeys(x, 0, 24, 1);
            x.flush();
            Expect.equal("keys of memory", x.count(1), 0);
            Edge.putKeys(x, 100, 24, 1);
            Expect.equal("24 keys", x.count(1), 24);
            Expect.refuses("a 25th", Edge.UNSUPPORTED, () -> x.put(0, 0, 0));
        });
    }

    private static int flushOf(int... sizes) {
        RunStore x = new RunStore(0);
        for (int k = 0; k < sizes.length; k++) {
            x.put(k, -1, sizes[k]);
        }
        return x.flush();
    }

    private static void tables() {
        Edge.test(4, "entries in the order of their keys: below 0 and above", () -> {
            RunStore x = new RunStore(0);
            long[] keys = {1, Long.MAX_VALUE, -1, 0, Long.MIN_VALUE};
            for (long key : keys) {
                x.drop(key);
            }
            x.flush();
            Edge.blocks(x, new int[] {0, 1}, Edge.joined(mark(Long.MIN_VALUE), mark(-1), mark(0), mark(1),
                mark(Long.MAX_VALUE)));
        });
        Edge.test(4, "an entry may go on in the next one: cut at each of its bytes", () -> {
            for (int inFirst = 1; inFirst <= 16; inFirst++) {
                goesOn(inFirst);
            }
        });
        Edge.test(4, "behind the last entry 0: whatever the blocks had", () -> {
            RunStore x = new RunStore(0);
            for (int i = 0; i < 32; i++) {
                x.poke(0, i, 255);
                x.poke(1, i, 255);
            }
            x.put(1, -1, 8);
            x.put(2, -1, 8);
            x.flush();
            Edge.blocks(x, new int[] {0, 1}, Edge.joined(Edge.entry(1, -1, 8), Edge.entry(2, -1, 8)));
        });
        Edge.test(4, "behind the last entry 0: none, when it ends with its block", () -> {
            RunStore x = new RunStore(0);
            x.poke(1, 0, 77);
            x.put(1, -1, 8);
            x.put(2, -1, 6);
            Expect.equal("one block", x.flush(), 1);
            Expect.equal("its last byte", x.byteAt(0, 31), 255);
            Expect.equal("the next block is left alone", x.byteAt(1, 0), 77);
            Expect.equal("and its sum", x.sum(1), 0);
        });
        Edge.test(4, "Level 0 may have several tables, the newest one counts first: up to 16", () -> {
            RunStore x = new RunStore(124);
            for (int t = 1; t <= 16; t++) {
                Edge.tableOf(x, 5, t, 1);
                Expect.equal("tables", x.count(3), t);
                Expect.equal("the newest", x.find(5), t);
                Expect.equal("lies first", x.table(0, 3), t - 1);
                Expect.equal("the oldest lies last", x.table(t - 1, 3), 0);
            }
        });
        Edge.test(4, "the newest table of level 0: before those of all levels", () -> {
            RunStore x = new RunStore(124);
            for (int level = 3; level > 0; level--) {
                Edge.tableOnLevel(x, level, 7, level);
            }
            Edge.tableOf(x, 7, 100, 1);
            Edge.tableOf(x, 7, 200, 1);
            int[] levels = {0, 0, 1, 2, 3};
            for (int t = 0; t < levels.length; t++) {
                Expect.equal("level of table " + t, x.table(t, 0), levels[t]);
            }
            Expect.equal("what counts", x.find(7), 200);
        });
        Edge.test(4, "the filter has the bits of all its entries: of 24, and of marks", () -> {
            RunStore x = new RunStore(9);
            for (int k = 0; k < 24; k++) {
                if (k % 2 == 0) {
                    x.put(k * 1000003L, k, 8);
                } else {
                    x.drop(-k * 1000003L);
                }
            }
            x.flush();
            for (int k = 0; k < 24; k++) {
                Expect.isTrue("key " + k, x.may(0, k % 2 == 0 ? k * 1000003L : -k * 1000003L));
            }
        });
    }

    private static int[] mark(long key) {
        return Edge.entry(key, 0, Edge.DROPPED);
    }

    /** An entry of 17 bytes, so many of them in the first block. */
    private static void goesOn(int inFirst) {
        RunStore x = new RunStore(0);
        int before = 32 - inFirst;
        int[] front;
        if (before <= 17) {
            x.put(1, -1, before - 9);
            front = Edge.entry(1, -1, before - 9);
        } else {
            int first = Math.min(8, before - 18);
            x.put(0, -1, first);
            x.put(1, -1, before - 18 - first);
            front = Edge.joined(Edge.entry(0, -1, first), Edge.entry(1, -1, before - 18 - first));
        }
        long key = 0x1112131415161718L;
        long v = 0x2122232425262728L;
        x.put(key, v, 8);
        Expect.equal("its blocks", x.flush(), 2);
        Edge.blocks(x, new int[] {0, 1}, Edge.joined(front, Edge.entry(key, v, 8)));
        Expect.equal("it is found", x.find(key), v);
    }

    private static void places() {
        Edge.test(4, "A new table takes the lowest free blocks, in order: from 0 up to B - 1", () -> {
            RunStore x = new RunStore(1);
            for (int t = 0; t < 5; t++) {
                Edge.tableOf(x, t, t, 1);
                Expect.equal("its block", x.table(0, 3), t);
                Expect.equal("free blocks", x.count(4), 4 - t);
            }
        });
        Edge.test(4, "A new table takes the lowest free blocks, in order: over a gap", () -> {
            RunStore x = Edge.after(3, EdgeFlushTest::gap);
            Edge.putKeys(x, 20, 6, 8);
            Expect.equal("102 bytes", x.flush(), 4);
            Expect.equal("the first one", x.table(0, 3), 0);
            int[] due = new int[0];
            for (int k = 20; k < 26; k++) {
                due = Edge.joined(due, Edge.entry(k, k, 8));
            }
            Edge.blocks(x, new int[] {0, 1, 4, 5}, due);
            for (int k = 0; k < 4; k++) {
                int block = new int[] {0, 1, 4, 5}[k];
                Expect.equal("sum of block " + block, x.sum(block), Edge.sumOf(x, block, k));
            }
            Expect.equal("the last entry", x.find(25), 25);
            Expect.equal("the other table", x.find(2), 2);
        });
    }

    /** Blocks 2 and 3 are a table of level 1; 0 and 1 were taken, and are free. */
    private static void gap(RunStore x) {
        Edge.putKeys(x, 1, 2, 8);
        x.flush();
        x.join(0);
        Expect.equal("it begins behind the old one", x.table(0, 3), 2);
    }

    private static void sums() {
        Edge.test(4, "The SUM of the table's k-th block (from 0) begins with k: 0 of zeros", () -> {
            RunStore x = new RunStore(0);
            x.put(0, 0, 0);
            x.flush();
            Expect.equal("a block of zeros", x.sum(0), 0);
        });
        Edge.test(4, "turned up by 15 (32 bits), times 374761393: all of it wraps around", () -> {
            RunStore x = new RunStore(0);
            Edge.tableOf(x, -1, -1, 8);
            Edge.tableOf(x, 1, 1, 1);
            x.drop(0);
            x.flush();
            Expect.equal("of ones", x.sum(0), -678087591);
            Expect.equal("of 1", x.sum(1), -1170794280);
            Expect.equal("of a mark of 0", x.sum(2), 922687198);
        });
        Edge.test(4, "The SUM of the table's k-th block (from 0) begins with k: of the greatest table", () -> {
            RunStore x = new RunStore(10);
            Edge.tableOf(x, 9, 9, 1);
            for (int k = 0; k < 24; k++) {
                x.put(k, -1, 8);
            }
            x.flush();
            int[] due = {1219564018, -1801563744, 1638954222, -825620115, -1337980810, 858079902, 2146097176,
                1236747104, 1389705566, -494690979, 671234275, 486275891, 1225997353};
            for (int k = 0; k < due.length; k++) {
                Expect.equal("sum of block " + k, x.sum(k + 1), due[k]);
            }
        });
    }

    private static void refusals() {
        Edge.test(4, "IllegalStateException, when memory has no keys: of a new store", () ->
            Edge.refused(Edge.STATE, 0, x -> { }, RunStore::flush));
        Edge.test(4, "IllegalStateException, when memory has no keys: after flush()", () ->
            Edge.refused(Edge.STATE, 0, x -> Edge.tableOf(x, 1, 1, 1), RunStore::flush));
        Edge.test(4, "IllegalStateException, when memory has no keys: after crash()", () ->
            Edge.refused(Edge.STATE, 0, x -> {
                x.put(1, 1, 1);
                x.crash(10, -1, 0);
            }, RunStore::flush));
        Edge.test(4, "UnsupportedOperationException, when there are not so many free blocks: all of them", () -> {
            RunStore x = new RunStore(0);
            Edge.putKeys(x, 0, 7, 8);
            x.put(7, 7, 0);
            Expect.equal("128 bytes", x.flush(), 4);
            Expect.equal("free blocks", x.count(4), 0);
        });
        Edge.test(4, "UnsupportedOperationException, when there are not so many free blocks: one too few", () -> {
            Edge.refused(Edge.UNSUPPORTED, 0, x -> {
                Edge.putKeys(x, 0, 7, 8);
                x.put(7, 7, 1);
            }, RunStore::flush);
            Edge.refused(Edge.UNSUPPORTED, 8, x -> Edge.putKeys(x, 0, 24, 8), RunStore::flush);
        });
        Edge.test(4, "UnsupportedOperationException, when there are not so many free blocks: none", () ->
            Edge.refused(Edge.UNSUPPORTED, 0, EdgeFlushTest::noneFree, RunStore::flush));
        Edge.test(4, "or there are 16 tables", () ->
            Edge.refused(Edge.UNSUPPORTED, 124, x -> {
                sixteen(x);
                x.put(1, 1, 1);
            }, RunStore::flush));
        Edge.test(4, "or there are 16 tables: of several levels", () ->
            Edge.refused(Edge.UNSUPPORTED, 60, x -> {
                for (int level = 3; level > 0; level--) {
                    Edge.tableOnLevel(x, level, level, 1);
                }
                for (int t = 0; t < 13; t++) {
                    Edge.tableOf(x, t, t, 1);
                }
                x.put(1, 1, 1);
            }, RunStore::flush));
        Edge.test(4, "or there are 16 tables: the 16th may be", () -> {
            RunStore x = Edge.after(124, EdgeFlushTest::sixteen);
            Expect.equal("tables", x.count(3), 16);
            Expect.equal("the newest", x.find(15), 15);
            Expect.equal("the oldest", x.length(0), 1);
        });
        Edge.test(4, "Of several exceptions the first one told is thrown", () -> {
            Edge.refused(Edge.STATE, 124, EdgeFlushTest::sixteen, RunStore::flush);
            Edge.refused(Edge.STATE, 0, x -> {
                noneFree(x);
                x.crash(0, -1, 0);
            }, RunStore::flush);
        });
    }

    private static void noneFree(RunStore x) {
        for (int t = 0; t < 4; t++) {
            Edge.tableOf(x, t, t, 8);
        }
        x.put(1, 1, 0);
    }

    private static void sixteen(RunStore x) {
        for (int t = 0; t < 16; t++) {
            Edge.tableOf(x, t, t, 1);
        }
    }

    private static void refusalsAndRoom() {
        Edge.test(4, "when there are not so many free blocks: what was refused is done when there is room", () -> {
            RunStore x = new RunStore(0);
            Edge.tableOf(x, 1, 1, 1);
            x.drop(1);
            x.flush();
            Edge.putKeys(x, 10, 4, 8);
            Expect.refuses("68 bytes in two blocks", Edge.UNSUPPORTED, x::flush);
            Expect.equal("nothing is left of two tables", x.join(0), 0);
            Expect.equal("68 bytes in four blocks", x.flush(), 3);
            Expect.equal("its last row", x.find(13), 13);
        });
        Edge.test(4, "or there are 16 tables: what was refused is done when there are fewer", () -> {
            RunStore x = Edge.after(124, EdgeFlushTest::sixteen);
            x.put(99, 99, 1);
            Expect.refuses("a 17th", Edge.UNSUPPORTED, x::flush);
            Expect.equal("one of 16", x.join(0), 16);
            Expect.equal("then a second", x.flush(), 1);
            Expect.equal("tables", x.count(3), 2);
            Expect.equal("its row", x.find(99), 99);
        });
        Edge.test(4, "when there are not so many free blocks: rows are kept in memory and log", () -> {
            RunStore x = Edge.after(0, EdgeFlushTest::noneFree);
            Expect.refuses("flush", Edge.UNSUPPORTED, x::flush);
            Expect.equal("memory's row", x.length(1), 0);
            Edge.log(x, Edge.logEntry(1, 0, 0));
            Expect.equal("and goes on", x.put(2, 2, 1), 2);
        });
    }
}
