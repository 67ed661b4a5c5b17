/** Boundary cases of promises 16, 17 and 18: badAt, check and count. */
public final class EdgeTellTest {
    public static void main(String[] args) {
        promise16();
        promise16Joins();
        promise16Others();
        promise17();
        promise17Blocks();
        promise18();
        promise18Counts();
        promise18Calls();
        Edge.end("EdgeTellTest");
    }

    /** Key 1 in block 0, key 2 in block 1, each of a table of its own. */
    private static void two(RunStore x) {
        Edge.tableOf(x, 1, 1, 1);
        Edge.tableOf(x, 2, 2, 2);
    }

    /** As two(), and badAt() tells block 1, which is right again. */
    private static void told(RunStore x) {
        two(x);
        x.poke(1, 0, 1);
        Expect.refuses("find", Edge.STATE, () -> x.find(2));
        x.poke(1, 0, 1);
        Expect.equal("badAt at first", x.badAt(), 1);
    }

    private static void promise16() {
        Edge.test(16, "NONE without: a new store, and one without a fault", () -> {
            RunStore x = new RunStore(0);
            Expect.equal("new", x.badAt(), -1);
            two(x);
            x.find(1);
            x.length(1);
            x.after(1);
            x.join(0);
            Expect.equal("no fault", x.badAt(), -1);
        });
        Edge.Run[] calls = {x -> x.find(1), x -> x.length(1), x -> x.after(1), x -> x.join(0)};
        String[] names = {"find()", "length()", "after()", "join()"};
        for (int c = 0; c < calls.length; c++) {
            Edge.Run call = calls[c];
            Edge.test(16, "The block that was at fault in the latest " + names[c] + ": block 0", () -> {
                RunStore x = Edge.after(0, EdgeTellTest::told);
                x.poke(0, 0, 1);
                Expect.refuses("the call", Edge.STATE, () -> call.on(x));
                Expect.equal("badAt", x.badAt(), 0);
                Expect.equal("and again", x.badAt(), 0);
            });
            Edge.test(16, "NONE without: the latest " + names[c] + " had no fault", () -> {
                RunStore x = Edge.after(0, EdgeTellTest::told);
                call.on(x);
                Expect.equal("badAt", x.badAt(), -1);
            });
        }
        Edge.test(16, "NONE without: a key of memory, one passed by, and none at all", () -> {
            Edge.Run[] finds = {x -> x.find(9), x -> x.length(9), x -> x.find(5), x -> x.length(5)};
            for (Edge.Run find : finds) {
                RunStore x = Edge.after(0, EdgeTellTest::told);
                x.put(9, 9, 1);
                find.on(x);
                Expect.equal("badAt", x.badAt(), -1);
            }
        });
        Edge.test(16, "The block that was at fault: the last of all, B - 1", () -> {
            RunStore x = new RunStore(0);
            for (int t = 0; t < 4; t++) {
                Edge.tableOf(x, t, t, 1);
            }
            x.poke(3, 31, 1);
            Expect.refuses("find", Edge.STATE, () -> x.find(3));
            Expect.equal("badAt", x.badAt(), 3);
        });
    }

    private static void promise16Joins() {
        Edge.test(16, "of join() those alone that had a level: others leave it", () -> {
            RunStore x = Edge.after(0, EdgeTellTest::told);
            for (int level : new int[] {-1, 3, Edge.MIN, Edge.MAX}) {
                Expect.refuses("join", Edge.ARGUMENT, () -> x.join(level));
                Expect.equal("badAt", x.badAt(), 1);
            }
        });
        Edge.test(16, "and a table of it: others leave it", () -> {
            RunStore x = Edge.after(0, EdgeTellTest::told);
            for (int level : new int[] {1, 2}) {
                Expect.refuses("join", Edge.STATE, () -> x.join(level));
                Expect.equal("badAt", x.badAt(), 1);
            }
        });
        Edge.test(16, "NONE without: a join() that had both, and too few free blocks", () -> {
            RunStore x = Edge.after(0, EdgeTellTest::told);
            Edge.putKeys(x, 10, 2, 8);
            x.flush();
            Expect.equal("none is free", x.count(4), 0);
            Expect.refuses("join", Edge.UNSUPPORTED, () -> x.join(0));
            Expect.equal("badAt", x.badAt(), -1);
        });
        Edge.test(16, "NONE without: a join() without entries", () -> {
            RunStore x = new RunStore(0);
            x.drop(1);
            x.flush();
            x.poke(0, 0, 1);
            Expect.refuses("after", Edge.STATE, () -> x.after(1));
            x.poke(0, 0, 1);
            Expect.equal("join", x.join(0), 0);
            Expect.equal("badAt", x.badAt(), -1);
        });
        Edge.test(16, "The block that was at fault: it may be free, or right again, by now", () -> {
            RunStore x = Edge.after(0, EdgeTellTest::told);
            Expect.equal("right again", x.check(), -1);
            Expect.equal("badAt", x.badAt(), 1);
        });
    }

    private static void promise16Others() {
        Edge.Run[] others = {x -> x.put(3, 3, 3), x -> x.drop(3), x -> { x.put(4, 4, 4); x.flush(); },
            x -> x.may(0, 1), x -> x.table(0, 0), x -> x.byteAt(0, 0), x -> x.poke(0, 0, 0), x -> x.sum(0),
            x -> { x.drop(1); x.logged(0); }, x -> x.crash(0, -1, 0), RunStore::check, x -> x.count(5)};
        String[] names = {"put", "drop", "flush", "may", "table", "byteAt", "poke", "sum", "logged", "crash", "check",
            "count"};
        for (int c = 0; c < others.length; c++) {
            Edge.Run call = others[c];
            Edge.test(16, "the latest join(), find(), length() or after(): " + names[c] + "() leaves it", () -> {
                RunStore x = Edge.after(0, EdgeTellTest::told);
                call.on(x);
                Expect.equal("badAt", x.badAt(), 1);
            });
        }
        Edge.test(16, "the latest join(), find(), length() or after(): other calls that are refused leave it", () -> {
            RunStore x = Edge.after(0, EdgeTellTest::told);
            Expect.refuses("put", Edge.ARGUMENT, () -> x.put(1, 1, 9));
            Expect.refuses("flush", Edge.STATE, x::flush);
            Expect.refuses("may", Edge.INDEX, () -> x.may(9, 1));
            Expect.refuses("table", Edge.INDEX, () -> x.table(0, 9));
            Expect.refuses("byteAt", Edge.INDEX, () -> x.byteAt(9, 9));
            Expect.refuses("poke", Edge.INDEX, () -> x.poke(9, 9, 9));
            Expect.refuses("sum", Edge.INDEX, () -> x.sum(9));
            Expect.refuses("logged", Edge.INDEX, () -> x.logged(9));
            Expect.refuses("crash", Edge.ARGUMENT, () -> x.crash(9, 9, 9));
            Expect.equal("count", x.count(9), -1);
            Expect.equal("badAt", x.badAt(), 1);
        });
    }

    private static void promise17() {
        Edge.test(17, "NONE: no tables, whatever free blocks have", () -> {
            RunStore x = new RunStore(0);
            Expect.equal("new", x.check(), -1);
            for (int block = 0; block < 4; block++) {
                x.poke(block, 0, 1);
                Expect.equal("check", x.check(), -1);
            }
        });
        Edge.test(17, "NONE: all are right, and altered ones that are right again", () -> {
            RunStore x = Edge.after(0, EdgeTellTest::two);
            Expect.equal("right", x.check(), -1);
            x.poke(1, 3, 7);
            Expect.equal("altered", x.check(), 1);
            x.poke(1, 3, 5);
            Expect.equal("altered otherwise", x.check(), 1);
            x.poke(1, 3, 2);
            Expect.equal("right again", x.check(), -1);
            x.poke(1, 3, 256);
            Expect.equal("by a mask without its lowest 8 bits", x.check(), -1);
        });
        Edge.test(17, "whose sum is not right: each byte of a block, behind its entries, too", () -> {
            for (int i = 0; i < 32; i++) {
                RunStore x = Edge.after(0, EdgeTellTest::two);
                x.poke(1, i, 128);
                Expect.equal("byte " + i, x.check(), 1);
            }
        });
        Edge.test(17, "(Nothing is counted.)", () ->
            Edge.onlyLooks(0, x -> {
                told(x);
                x.poke(0, 0, 1);
            }, x -> Expect.equal("check", x.check(), 0)));
    }

    private static void promise17Blocks() {
        Edge.test(17, "The lowest block of tables: 0, B - 1, and of several the lowest", () -> {
            RunStore x = new RunStore(0);
            for (int t = 0; t < 4; t++) {
                Edge.tableOf(x, t, t, 1);
            }
            for (int block = 3; block >= 0; block--) {
                x.poke(block, 31, 1);
                Expect.equal("check", x.check(), block);
            }
            for (int block = 0; block < 4; block++) {
                Expect.equal("check", x.check(), block);
                x.poke(block, 31, 1);
            }
            Expect.equal("check", x.check(), -1);
        });
        Edge.test(17, "The lowest block of tables: the last of 128", () -> {
            RunStore x = new RunStore(124);
            for (int t = 0; t < 9; t++) {
                Edge.putKeys(x, 100 * t, 24, 8);
                x.flush();
            }
            Edge.putKeys(x, 5000, 20, 8);
            x.flush();
            Expect.equal("none is free", x.count(4), 0);
            x.poke(127, 31, 1);
            Expect.equal("check", x.check(), 127);
        });
        Edge.test(17, "The lowest block of tables: by number, not as tables count", () -> {
            RunStore x = new RunStore(3);
            Edge.tableOnLevel(x, 1, 1, 1);
            Edge.putKeys(x, 10, 2, 8);
            x.flush();
            // level 1 in block 1, level 0 in 0 and 2
            x.poke(2, 0, 1);
            x.poke(1, 0, 1);
            Expect.equal("check", x.check(), 1);
            Expect.refuses("after", Edge.STATE, () -> x.after(0));
            Expect.equal("badAt tells the first one wanted", x.badAt(), 2);
        });
        Edge.test(17, "The lowest block of tables: given up by a join, it is of none", () -> {
            RunStore x = Edge.after(0, EdgeTellTest::two);
            x.join(0);
            x.poke(0, 0, 1);
            x.poke(1, 0, 1);
            Expect.equal("check", x.check(), -1);
            x.poke(2, 0, 1);
            Expect.equal("of the new one", x.check(), 2);
        });
        Edge.test(17, "The SUM of the table's k-th block (from 0) begins with k: all blocks of a great table", () -> {
            RunStore x = new RunStore(124);
            for (int t = 0; t < 4; t++) {
                Edge.putKeys(x, 100 * t, 24, 8);
                x.flush();
            }
            Expect.equal("join", x.join(0), 96);
            Expect.equal("check", x.check(), -1);
            for (int block = 102; block >= 52; block--) {
                x.poke(block, 16, 16);
                Expect.equal("check", x.check(), block);
            }
        });
        Edge.test(17, "whose sum is not right: a forged block is right", () -> {
            Edge.Run run = Forge.run(0, x -> Edge.tableOf(x, 1, 77, 8), 0, 0, 8, 1, 9);
            RunStore x = Edge.after(0, run);
            Expect.equal("its length is none", x.byteAt(0, 8), 9);
            Expect.equal("check", x.check(), -1);
            Expect.refuses("find", Edge.STATE, () -> x.find(1));
        });
    }

    private static void counts(RunStore x, int... due) {
        for (int what = 0; what < 8; what++) {
            Expect.equal("count(" + what + ")", x.count(what), due[what]);
        }
    }

    private static void promise18() {
        Edge.test(18, "NONE for another what", () -> {
            for (int what : new int[] {-1, 8, 9, 256, Edge.MIN, Edge.MAX}) {
                Edge.onlyLooks(0, EdgeTellTest::told, x -> Expect.equal("count(" + what + ")", x.count(what), -1));
            }
        });
        Edge.test(18, "B (0) .. entries of all tables (7): of a new store", () -> {
            counts(new RunStore(0), 4, 0, 0, 0, 4, 0, 0, 0);
            counts(new RunStore(124), 128, 0, 0, 0, 128, 0, 0, 0);
        });
        Edge.test(18, "keys of memory (1): 24, and none after flush()", () -> {
            RunStore x = new RunStore(9);
            Edge.putKeys(x, 0, 24, 8);
            counts(x, 13, 24, 432, 0, 13, 0, 0, 0);
            x.flush();
            counts(x, 13, 0, 0, 1, 0, 0, 0, 24);
        });
        Edge.test(18, "the log's length (2): 1024", () -> {
            RunStore x = Edge.after(0, y -> Edge.fillLog(y, 1024));
            counts(x, 4, 1, 1024, 0, 4, 0, 0, 0);
        });
        Edge.test(18, "tables (3), free blocks (4), entries of all tables (7): 16 tables, of all levels, none free", () -> {
            RunStore x = new RunStore(12);
            for (int level = 3; level > 0; level--) {
                Edge.tableOnLevel(x, level, level, 1);
            }
            int checked = x.count(5);
            for (int t = 0; t < 13; t++) {
                x.drop(t);
                x.flush();
            }
            counts(x, 16, 0, 0, 16, 0, checked, 0, 16);
        });
    }

    private static void promise18Counts() {
        Edge.test(18, "blocks checked so far (5): by find, length, after and join, with a fault or not", () -> {
            RunStore x = Edge.after(0, EdgeTellTest::two);
            x.find(2);
            Expect.equal("find", x.count(5), 1);
            x.length(2);
            Expect.equal("length", x.count(5), 2);
            x.after(2);
            Expect.equal("after", x.count(5), 4);
            x.poke(1, 0, 1);
            Expect.refuses("find", Edge.STATE, () -> x.find(2));
            Expect.equal("a fault", x.count(5), 5);
            Expect.refuses("after", Edge.STATE, () -> x.after(2));
            Expect.equal("a fault of after", x.count(5), 6);
            Expect.refuses("join", Edge.STATE, () -> x.join(0));
            Expect.equal("a fault of join", x.count(5), 7);
            x.poke(1, 0, 1);
            x.join(0);
            Expect.equal("join", x.count(5), 9);
        });
        Edge.test(18, "blocks checked so far (5): a join() for which there are too few free blocks", () -> {
            RunStore x = new RunStore(0);
            for (int t = 0; t < 4; t++) {
                Edge.tableOf(x, t, t, 1);
            }
            Expect.refuses("join", Edge.UNSUPPORTED, () -> x.join(0));
            Expect.equal("checked", x.count(5), 4);
        });
        Edge.test(18, "blocks checked so far (5): not by put, drop, flush, may, table, byteAt, poke, sum, crash, check", () -> {
            RunStore x = Edge.after(0, EdgeTellTest::two);
            x.put(5, 5, 5);
            x.drop(6);
            x.may(0, 2);
            x.table(0, 3);
            x.byteAt(0, 0);
            x.poke(0, 0, 1);
            x.sum(0);
            x.check();
            x.crash(0, -1, 0);
            Expect.refuses("join without a table", Edge.STATE, () -> x.join(1));
            Expect.equal("checked", x.count(5), 0);
            Expect.equal("passed by", x.count(6), 0);
        });
        Edge.test(18, "tables passed by for their filters so far (6): by find and length alone", () -> {
            RunStore x = Edge.after(0, EdgeTellTest::two);
            x.find(1);
            Expect.equal("the newer one", x.count(6), 1);
            x.length(5);
            Expect.equal("both", x.count(6), 3);
            x.after(5);
            x.join(0);
            Expect.equal("after and join pass none by", x.count(6), 3);
        });
        Edge.test(18, "entries of all tables (7): marks are entries, and joined ones count once", () -> {
            RunStore x = new RunStore(60);
            Edge.tableOnLevel(x, 3, 1, 1);
            x.drop(1);
            x.flush();
            x.drop(1);
            x.put(2, 2, 2);
            x.flush();
            Expect.equal("1 + 1 + 2", x.count(7), 4);
            x.join(0);
            Expect.equal("1 + 2", x.count(7), 3);
        });
        Edge.test(18, "free blocks (4): of tables that were joined, and refused calls", () -> {
            RunStore x = Edge.after(0, EdgeTellTest::two);
            Expect.equal("two are free", x.count(4), 2);
            x.join(0);
            Expect.equal("three are free", x.count(4), 3);
            Edge.putKeys(x, 10, 6, 8);
            Expect.refuses("102 bytes", Edge.UNSUPPORTED, x::flush);
            Expect.equal("three still", x.count(4), 3);
        });
    }

    private static void promise18Calls() {
        Edge.test(18, "An object is used for at most 512 calls: the 512th answers as the others", () -> {
            RunStore x = new RunStore(0);
            x.put(1, 1, 1);
            x.flush();
            for (int call = 3; call < 512; call++) {
                Expect.equal("find", x.find(1), 1);
            }
            Expect.equal("blocks checked by 509 of them", x.count(5), 509);
        });
        Edge.test(18, "An object is used for at most 512 calls: of joins and flushes, again and again", () -> {
            RunStore x = new RunStore(124);
            for (int round = 0; round < 127; round++) {
                x.put(round % 24, round, 8);
                x.flush();
                Expect.equal("join", x.join(0), Math.min(24, round + 1));
                Expect.equal("the newest", x.find(round % 24), round);
            }
            counts508(x);
        });
    }

    private static void counts508(RunStore x) {
        Expect.equal("tables", x.count(3), 1);
        Expect.equal("entries", x.count(7), 24);
        Expect.equal("free blocks", x.count(4), 128 - 13);
        Expect.equal("check, the 512th", x.check(), -1);
    }
}
