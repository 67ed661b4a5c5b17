/** Boundary cases of promise 5: join. */
public final class EdgeJoinTest {
    public static void main(String[] args) {
        entries();
        marks();
        nothingLeft();
        checks();
        faults();
        forgedFaults();
        blocks();
        levelRefusals();
        blockRefusals();
        Edge.end("EdgeJoinTest");
    }

    private static void entries() {
        Edge.test(5, "All tables of a level and that of the next one: one table, and none on the next level", () -> {
            RunStore x = new RunStore(0);
            Edge.tableOf(x, 1, 9, 1);
            for (int level = 0; level < 3; level++) {
                Expect.equal("join(" + level + ")", x.join(level), 1);
                Expect.equal("tables", x.count(3), 1);
                Expect.equal("its level", x.table(0, 0), level + 1);
                Expect.equal("its row", x.find(1), 9);
            }
        });
        Edge.test(5, "All tables of a level and that of the next one: 16 of level 0", () -> {
            RunStore x = new RunStore(124);
            for (int t = 0; t < 16; t++) {
                Edge.tableOf(x, t % 4, t, 1);
            }
            Expect.equal("join", x.join(0), 4);
            Expect.equal("tables", x.count(3), 1);
            for (int k = 0; k < 4; k++) {
                Expect.equal("of the newest", x.find(k), 12 + k);
            }
        });
        Edge.test(5, "All tables of a level and that of the next one: 15 of level 0 and one of level 1", () -> {
            RunStore x = new RunStore(124);
            Edge.tableOnLevel(x, 1, 50, 50);
            for (int t = 0; t < 15; t++) {
                Edge.tableOf(x, t, t, 1);
            }
            Expect.equal("join", x.join(0), 16);
            Expect.equal("tables", x.count(3), 1);
            Expect.equal("of level 1", x.find(50), 50);
        });
        Edge.test(5, "All tables of a level and that of the next one: those of other levels stay", () -> {
            RunStore x = Edge.after(60, EdgeJoinTest::onAllLevels);
            Expect.equal("join(1)", x.join(1), 1);
            int[] levels = {0, 0, 2, 3};
            for (int t = 0; t < levels.length; t++) {
                Expect.equal("level of table " + t, x.table(t, 0), levels[t]);
            }
            Expect.refuses("a fifth", Edge.INDEX, () -> x.table(4, 0));
            x.put(8, 8, 1);
            Expect.equal("join(0) leaves memory", x.join(0), 1);
            Expect.equal("keys of memory", x.count(1), 1);
            Expect.equal("the log", x.count(2), 11);
        });
        Edge.test(5, "of each key what counts first: the newest of level 0, level 0 before level 1", () -> {
            RunStore x = new RunStore(60);
            Edge.putKeys(x, 0, 3, 8);
            x.flush();
            x.join(0);
            x.put(1, 101, 1);
            x.put(2, 102, 1);
            x.flush();
            x.put(2, 202, 2);
            x.flush();
            Expect.equal("join", x.join(0), 3);
            Edge.blocks(x, new int[] {x.table(0, 3), x.table(0, 3) + 1},
                Edge.joined(Edge.entry(0, 0, 8), Edge.entry(1, 101, 1), Edge.entry(2, 202, 2)));
        });
        Edge.test(5, "How many entries it has: more than memory has keys", () -> {
            RunStore x = new RunStore(124);
            for (int t = 0; t < 4; t++) {
                Edge.putKeys(x, 1000 - 24 * t, 24, 8);
                x.flush();
            }
            Expect.equal("join", x.join(0), 96);
            Expect.equal("its entries", x.table(0, 1), 96);
            Expect.equal("1632 bytes", x.table(0, 2), 51);
            Expect.equal("behind the old ones", x.table(0, 3), 52);
            Expect.equal("the first", x.after(Long.MIN_VALUE), 928);
            Expect.equal("the last", x.find(1023), 1023);
            Expect.equal("its last block's sum", x.sum(102), Edge.sumOf(x, 102, 50));
        });
        Edge.test(5, "How many entries it has: as many as there is room for", () -> {
            RunStore x = new RunStore(124);
            for (int t = 0; t < 9; t++) {
                Edge.putKeys(x, 1000 - 24 * t, 24, 0);
                x.flush();
            }
            Expect.equal("free blocks", x.count(4), 128 - 9 * 7);
            Expect.equal("join", x.join(0), 216);
            Expect.equal("1944 bytes", x.table(0, 2), 61);
            Expect.equal("the least is of the newest", x.after(Long.MIN_VALUE), 808);
            Expect.equal("the greatest is of the oldest", x.after(1022), 1023);
            Expect.equal("and is there", x.length(1023), 0);
        });
        Edge.test(5, "entries in the order of their keys: the least and the greatest", () -> {
            RunStore x = new RunStore(60);
            for (long key : new long[] {Long.MAX_VALUE, 0, Long.MIN_VALUE, -1}) {
                Edge.tableOf(x, key, 1, 0);
            }
            Expect.equal("join", x.join(0), 4);
            Edge.blocks(x, new int[] {4, 5}, Edge.joined(Edge.entry(Long.MIN_VALUE, 0, 0), Edge.entry(-1, 0, 0),
                Edge.entry(0, 0, 0), Edge.entry(Long.MAX_VALUE, 0, 0)));
        });
        Edge.test(5, "the filter has the bits of all its entries: and of no others", () -> {
            RunStore x = new RunStore(60);
            Edge.tableOf(x, 1, 1, 1);
            x.drop(1);
            x.put(2, 2, 2);
            x.flush();
            x.join(0);
            Expect.isTrue("2 is in it", x.may(0, 2));
            Expect.isTrue("1, that was dropped, is not", !Edge.passes(2, 1) && !x.may(0, 1));
        });
    }

    /** Key 7 on each level, on level 0 twice: 100 and 200 there, else the level. */
    private static void onAllLevels(RunStore x) {
        for (int level = 3; level > 0; level--) {
            Edge.tableOnLevel(x, level, 7, level);
        }
        Edge.tableOf(x, 7, 100, 8);
        Edge.tableOf(x, 7, 200, 8);
    }

    private static void marks() {
        Edge.test(5, "marks are left out, when no level behind that has a table: no other table at all", () -> {
            RunStore x = new RunStore(60);
            markOn(x, 0);
            Expect.equal("join(0)", x.join(0), 1);
            onlyRow2(x);
        });
        Edge.test(5, "marks are left out, when no level behind that has a table: what was behind is gone", () -> {
            RunStore x = new RunStore(60);
            Edge.tableOnLevel(x, 3, 9, 9);
            x.drop(9);
            x.flush();
            x.join(0);
            Expect.equal("a mark of 9 on level 2", x.join(1), 1);
            markOn(x, 1);
            Expect.equal("nothing is left of 9", x.join(2), 0);
            Expect.equal("a mark and a row on level 1", x.table(0, 0) * 10 + x.table(0, 1), 12);
            Expect.equal("join(1)", x.join(1), 1);
            onlyRow2(x);
        });
        for (int level = 0; level < 3; level++) {
            int of = level;
            Edge.test(5, "marks are left out, when no level behind that has a table: the next one of " + of, () -> {
                RunStore x = new RunStore(60);
                Edge.tableOnLevel(x, of + 1, 1, 11);
                markOn(x, of);
                Expect.equal("join(" + of + ")", x.join(of), 1);
                onlyRow2(x);
            });
        }
        int[][] behind = {{0, 2}, {0, 3}, {1, 3}};
        for (int[] b : behind) {
            Edge.test(5, "marks are left out, when no level behind that has a table: " + b[1] + " has", () -> {
                RunStore x = new RunStore(60);
                Edge.tableOnLevel(x, b[1], 1, 11);
                markOn(x, b[0]);
                Expect.equal("join(" + b[0] + ")", x.join(b[0]), 2);
                Expect.equal("entries of the table", x.table(0, 1), 2);
                Expect.equal("the mark", x.byteAt(x.table(0, 3), 8), 255);
                Expect.equal("dropped still", x.length(1), -1);
                Expect.equal("after", x.after(0), 2);
            });
        }
        Edge.test(5, "marks are left out, when no level behind that has a table: those before are not behind", () -> {
            RunStore x = new RunStore(60);
            Edge.tableOnLevel(x, 3, 1, 11);
            markOn(x, 2);
            Edge.tableOnLevel(x, 1, 5, 5);
            Edge.tableOf(x, 6, 6, 1);
            Expect.equal("join(2)", x.join(2), 1);
            RunStore y = new RunStore(60);
            Edge.tableOnLevel(y, 2, 1, 11);
            markOn(y, 1);
            Edge.tableOf(y, 6, 6, 1);
            Expect.equal("join(1)", y.join(1), 1);
        });
        Edge.test(5, "marks are left out: a row that counts before a mark stays", () -> {
            RunStore x = new RunStore(60);
            x.drop(1);
            x.flush();
            Edge.tableOf(x, 1, 5, 1);
            Expect.equal("join", x.join(0), 1);
            Expect.equal("its value", x.find(1), 5);
        });
    }

    /** A table with a mark of 1 and a row of 2, on a level; what lies behind keeps the mark on its way. */
    private static void markOn(RunStore x, int level) {
        x.drop(1);
        x.put(2, 2, 1);
        x.flush();
        for (int to = 0; to < level; to++) {
            Expect.equal("both on the way", x.join(to), 2);
        }
    }

    private static void onlyRow2(RunStore x) {
        Expect.equal("tables", x.count(3), 1);
        Expect.equal("entries", x.count(7), 1);
        Expect.equal("1 is dropped", x.length(1), -1);
        Expect.equal("2 is there", x.find(2), 2);
    }

    private static void nothingLeft() {
        Edge.test(5, "no entries: no table: a mark alone", () -> {
            RunStore x = new RunStore(0);
            x.drop(1);
            x.flush();
            Expect.equal("join", x.join(0), 0);
            Expect.equal("tables", x.count(3), 0);
            Expect.equal("free blocks", x.count(4), 4);
            Expect.equal("entries", x.count(7), 0);
            Expect.equal("checked", x.count(5), 1);
            Expect.equal("the freed block keeps its bytes", x.byteAt(0, 8), 255);
            Expect.refuses("no table to join", Edge.STATE, () -> x.join(0));
            Expect.refuses("nor on the next level", Edge.STATE, () -> x.join(1));
            Expect.refuses("nor to look at", Edge.INDEX, () -> x.table(0, 0));
        });
        Edge.test(5, "no entries: no table: marks and the rows that they drop, on each level", () -> {
            for (int level = 0; level < 3; level++) {
                RunStore x = new RunStore(60);
                Edge.tableOnLevel(x, level + 1, 1, 1);
                x.drop(1);
                x.flush();
                for (int to = 0; to < level; to++) {
                    x.join(to);
                }
                Expect.equal("join(" + level + ")", x.join(level), 0);
                Expect.equal("tables", x.count(3), 0);
                Expect.equal("free blocks", x.count(4), 64);
            }
        });
        Edge.test(5, "no entries: no table: those before it move up", () -> {
            RunStore x = new RunStore(60);
            Edge.tableOnLevel(x, 2, 1, 1);
            x.drop(1);
            x.flush();
            x.join(0);
            Edge.tableOf(x, 5, 5, 1);
            Expect.equal("join(1)", x.join(1), 0);
            Expect.equal("tables", x.count(3), 1);
            Expect.equal("the one of level 0", x.find(5), 5);
        });
        Edge.test(5, "no entries: no table: no block is wanted when none is free", () -> {
            RunStore x = new RunStore(0);
            for (int k = 0; k < 4; k++) {
                x.drop(k);
                x.flush();
            }
            Expect.equal("none is free", x.count(4), 0);
            Expect.equal("join", x.join(0), 0);
            Expect.equal("all are free", x.count(4), 4);
        });
    }

    private static void checks() {
        Edge.test(5, "All their blocks are checked first: each once, whatever their filters", () -> {
            RunStore x = Edge.after(60, EdgeJoinTest::threeOfTwoBlocks);
            x.join(0);
            Expect.equal("checked", x.count(5), 6 + 2);
            Expect.equal("passed by", x.count(6), 0);
        });
        Edge.test(5, "All their blocks are checked first: not those of other levels", () -> {
            RunStore x = Edge.after(60, EdgeJoinTest::onAllLevels);
            int before = x.count(5);
            x.poke(x.table(3, 3), 0, 1);
            x.poke(x.table(4, 3), 0, 1);
            Expect.equal("join(0)", x.join(0), 1);
            Expect.equal("three blocks", x.count(5) - before, 3);
            RunStore y = Edge.after(60, EdgeJoinTest::onAllLevels);
            y.poke(y.table(0, 3), 0, 1);
            y.poke(y.table(1, 3), 0, 1);
            y.poke(y.table(4, 3), 0, 1);
            Expect.equal("join(1)", y.join(1), 1);
            Expect.equal("no fault", y.badAt(), -1);
        });
        Edge.test(5, "All their blocks are checked first: not free ones", () -> {
            RunStore x = Edge.after(60, EdgeJoinTest::threeOfTwoBlocks);
            x.poke(40, 0, 1);
            x.poke(6, 31, 255);
            Expect.equal("join", x.join(0), 6);
            Expect.equal("no fault", x.badAt(), -1);
            Expect.equal("all sums are right", x.check(), -1);
        });
    }

    /** Level 1 in blocks 2, 3; level 0: the older table in 0, 1, the newest in 4, 5; each of two rows. */
    private static void threeOfTwoBlocks(RunStore x) {
        for (int t = 0; t < 3; t++) {
            Edge.putKeys(x, 10 * t, 2, 8);
            x.flush();
            if (t == 0) {
                x.join(0);
            }
        }
    }

    private static void faults() {
        int[] order = {4, 5, 0, 1, 2, 3};
        for (int first = 0; first < order.length; first++) {
            int from = first;
            Edge.test(5, "the newest table first, each from its front: block " + order[first], () ->
                Edge.fault(60, x -> {
                    threeOfTwoBlocks(x);
                    for (int i = order.length - 1; i >= from; i--) {
                        x.poke(order[i], 31, 128);
                    }
                }, x -> x.join(0), order[from], from + 1, 0));
        }
        Edge.test(5, "when its sum is not right: a FAULT: each byte of a block, and a bit of it", () -> {
            for (int i = 0; i < 32; i++) {
                RunStore x = new RunStore(0);
                Edge.tableOf(x, 1, 1, 8);
                x.poke(0, i, 1 << i % 8);
                Expect.refuses("join with byte " + i, Edge.STATE, () -> x.join(0));
                Expect.equal("its block", x.badAt(), 0);
                x.poke(0, i, 1 << i % 8);
                Expect.equal("join of what is right again", x.join(0), 1);
                Expect.equal("no fault", x.badAt(), -1);
            }
        });
        Edge.test(5, "UnsupportedOperationException (behind faults)", () ->
            Edge.fault(0, x -> {
                oneFreeOfTwo(x);
                x.poke(0, 0, 1);
            }, x -> x.join(0), 0, 2, 0));
    }

    /** Three blocks are taken; a join needs two. */
    private static void oneFreeOfTwo(RunStore x) {
        Edge.putKeys(x, 1, 2, 8);
        x.flush();
        Edge.tableOf(x, 3, 3, 1);
    }

    private static void forgedFaults() {
        Edge.test(5, "An entry whose length is none .. is a fault, too, of the block of that length", () -> {
            for (int length : new int[] {9, 16, 128, 254}) {
                Edge.Run run = Forge.run(0, x -> Edge.tableOf(x, 1, 77, 8), 0, 0, 8, 8 ^ length, 9);
                Edge.fault(0, run, x -> x.join(0), 0, 1, 0);
            }
        });
        Edge.test(5, "An entry whose length is none: that of the next block's first byte, and the last of one", () -> {
            for (int edge = 0; edge < 2; edge++) {
                Edge.fault(0, Forge.lengthAtEdge(edge), x -> x.join(0), 1 + edge, 3, 0);
            }
        });
        Edge.test(5, "that goes beyond the last block, is a fault, too, .. of the last one", () -> {
            Edge.Run two = x -> {
                x.put(1, 1, 8);
                x.put(2, 2, 6);
                x.flush();
            };
            Edge.Run run = Forge.run(0, two, 0, 0, 25, 6 ^ 7, 9);
            Edge.fault(0, run, x -> x.join(0), 0, 1, 0);
        });
        Edge.test(5, "All their blocks are checked first: before a length is looked at", () -> {
            Edge.Run forged = Forge.run(0, x -> {
                Edge.tableOf(x, 1, 1, 8);
                Edge.tableOf(x, 2, 77, 8);
            }, 1, 0, 8, 1, 9);
            Edge.fault(0, x -> {
                forged.on(x);
                x.poke(0, 31, 1);
            }, x -> x.join(0), 0, 2, 0);
            Edge.fault(0, forged, x -> x.join(0), 1, 2, 0);
        });
    }

    private static void blocks() {
        Edge.test(5, "the new one takes its blocks while those of the old ones are not free", () -> {
            RunStore x = new RunStore(0);
            Edge.putKeys(x, 1, 2, 8);
            x.flush();
            Expect.equal("join", x.join(0), 2);
            Expect.equal("behind the old ones", x.table(0, 3), 2);
            Expect.equal("these are free then", x.count(4), 2);
            Expect.equal("join of it", x.join(1), 2);
            Expect.equal("before the old ones", x.table(0, 3), 0);
            Expect.equal("these are free then, too", x.count(4), 2);
        });
        Edge.test(5, "A new table takes the lowest free blocks, in order: over a gap", () -> {
            RunStore x = new RunStore(3);
            Edge.tableOnLevel(x, 1, 1, 1);
            // level 1 in block 1
            Edge.putKeys(x, 10, 2, 8);
            x.flush();
            // level 0 in blocks 0 and 2
            Expect.equal("its first block", x.table(0, 3), 0);
            Expect.equal("join", x.join(0), 3);
            Expect.equal("51 bytes from block 3", x.table(0, 3), 3);
            Edge.tableOf(x, 20, 20, 8);
            Edge.tableOf(x, 21, 21, 8);
            // level 0 in 0 and 1; free are 2, 5 and 6
            Expect.equal("join again", x.join(0), 5);
            Edge.blocks(x, new int[] {2, 5, 6}, Edge.joined(Edge.entry(1, 1, 8), Edge.entry(10, 10, 8),
                Edge.entry(11, 11, 8), Edge.entry(20, 20, 8), Edge.entry(21, 21, 8)));
            for (int k = 0; k < 3; k++) {
                int block = new int[] {2, 5, 6}[k];
                Expect.equal("sum of block " + block, x.sum(block), Edge.sumOf(x, block, k));
            }
            Expect.equal("its last row", x.find(21), 21);
        });
        Edge.test(5, "behind the last entry 0: whatever the blocks had", () -> {
            RunStore x = new RunStore(0);
            Edge.tableOf(x, 1, 5, 1);
            for (int i = 0; i < 32; i++) {
                x.poke(1, i, 255);
            }
            x.join(0);
            Edge.blocks(x, new int[] {1}, Edge.entry(1, 5, 1));
            Expect.equal("its sum", x.sum(1), Edge.sumOf(x, 1, 0));
        });
        Edge.test(5, "free ones keep what they had: those of the old tables", () -> {
            RunStore x = new RunStore(0);
            Edge.tableOf(x, 1, 5, 1);
            int sum = x.sum(0);
            x.join(0);
            Edge.blocks(x, new int[] {0}, Edge.entry(1, 5, 1));
            Expect.equal("and their sums", x.sum(0), sum);
        });
    }

    private static void levelRefusals() {
        Edge.test(5, "IllegalArgumentException, when the level is not 0 .. 2", () -> {
            for (int level : new int[] {-1, 3, 4, Edge.MIN, Edge.MAX}) {
                Edge.refused(Edge.ARGUMENT, 60, EdgeJoinTest::onAllLevels, x -> x.join(level));
            }
        });
        Edge.test(5, "IllegalArgumentException, when the level is not 0 .. 2: before that it has no table", () -> {
            for (int level : new int[] {-1, 3}) {
                Edge.refused(Edge.ARGUMENT, 0, x -> { }, x -> x.join(level));
            }
        });
        Edge.test(5, "IllegalStateException, when it has no table: no table at all", () -> {
            for (int level = 0; level < 3; level++) {
                int of = level;
                Edge.refused(Edge.STATE, 0, x -> x.put(1, 1, 1), x -> x.join(of));
            }
        });
        Edge.test(5, "IllegalStateException, when it has no table: other levels have", () -> {
            Edge.refused(Edge.STATE, 9, x -> Edge.tableOnLevel(x, 1, 1, 1), x -> x.join(0));
            Edge.refused(Edge.STATE, 9, x -> {
                Edge.tableOnLevel(x, 2, 1, 1);
                Edge.tableOf(x, 1, 1, 1);
            }, x -> x.join(1));
            Edge.refused(Edge.STATE, 9, x -> {
                Edge.tableOnLevel(x, 3, 1, 1);
                Edge.tableOnLevel(x, 1, 1, 1);
                Edge.tableOf(x, 1, 1, 1);
            }, x -> x.join(2));
        });
        Edge.test(5, "(of join() those alone that had a level and a table of it): badAt() stays", () -> {
            Edge.Run faulted = x -> {
                Edge.tableOf(x, 1, 1, 1);
                Edge.tableOf(x, 2, 2, 1);
                x.poke(1, 0, 1);
                Expect.refuses("find", Edge.STATE, () -> x.find(2));
                Expect.equal("its block", x.badAt(), 1);
            };
            Edge.refused(Edge.ARGUMENT, 0, faulted, x -> x.join(3));
            Edge.refused(Edge.ARGUMENT, 0, faulted, x -> x.join(-1));
            Edge.refused(Edge.STATE, 0, faulted, x -> x.join(1));
            Edge.refused(Edge.STATE, 0, faulted, x -> x.join(2));
        });
    }

    private static void blockRefusals() {
        Edge.test(5, "UnsupportedOperationException, when there are not so many free blocks: one too few", () ->
            Edge.changesOnly(Edge.UNSUPPORTED, 0, EdgeJoinTest::oneFreeOfTwo, x -> x.join(0), -1, 3, 0));
        Edge.test(5, "UnsupportedOperationException, when there are not so many free blocks: none", () ->
            Edge.changesOnly(Edge.UNSUPPORTED, 0, x -> {
                for (int t = 0; t < 4; t++) {
                    Edge.tableOf(x, 1, t, 1);
                }
            }, x -> x.join(0), -1, 4, 0));
        Edge.test(5, "UnsupportedOperationException, when there are not so many free blocks: just so many", () -> {
            RunStore x = new RunStore(1);
            oneFreeOfTwo(x);
            Expect.equal("two are free", x.count(4), 2);
            Expect.equal("join", x.join(0), 3);
            Expect.equal("they lie last", x.table(0, 3), 3);
            Expect.equal("the last row", x.find(3), 3);
        });
        Edge.test(5, "when there are not so many free blocks: what counts and is kept is what needs them", () -> {
            RunStore x = new RunStore(0);
            Edge.putKeys(x, 1, 2, 8);
            x.flush();
            x.drop(2);
            x.flush();
            Expect.equal("one is free", x.count(4), 1);
            Expect.equal("one row is left, of 17 bytes", x.join(0), 1);
            Expect.equal("in the last block", x.table(0, 3), 3);
        });
        Edge.test(5, "when there are not so many free blocks: badAt() tells no fault then", () ->
            Edge.changesOnly(Edge.UNSUPPORTED, 0, x -> {
                oneFreeOfTwo(x);
                x.poke(0, 0, 1);
                Expect.refuses("find", Edge.STATE, () -> x.find(1));
                x.poke(0, 0, 1);
                Expect.equal("its block", x.badAt(), 0);
            }, x -> x.join(0), -1, 3, 0));
        Edge.test(5, "when there are not so many free blocks: what was refused is done when there are more", () -> {
            RunStore x = new RunStore(0);
            Edge.tableOnLevel(x, 2, 1, 1);
            x.drop(1);
            x.flush();
            x.join(0);
            Edge.tableOf(x, 5, 5, 1);
            Edge.tableOf(x, 6, 6, 1);
            Expect.refuses("no block is free", Edge.UNSUPPORTED, () -> x.join(0));
            Expect.equal("nothing is left of levels 1 and 2", x.join(1), 0);
            Expect.equal("two are free now", x.join(0), 2);
        });
    }
}
