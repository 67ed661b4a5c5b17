/** Boundary cases of promises 14 and 15: logged and crash. */
public final class EdgeLogTest {
    /** Where the entries of rows() end in the log. */
    private static final int[] ENDS = {0, 11, 23, 33, 51};
    /** How many keys memory has after so many of them. */
    private static final int[] KEYS = {0, 1, 2, 2, 3};

    public static void main(String[] args) {
        promise14();
        promise14Refusals();
        promise15Kept();
        promise15Mask();
        promise15NotWhole();
        promise15Lengths();
        promise15Sums();
        promise15TwentyFifth();
        promise15State();
        promise15Refusals();
        Edge.end("EdgeLogTest");
    }

    /** Entries of 11, 12, 10 and 18 bytes, the third a mark of the first one's key. */
    private static void rows(RunStore x) {
        x.put(1, 11, 1);
        x.put(2, 0x1616, 2);
        x.drop(1);
        x.put(3, -3, 8);
    }

    private static int[] rowsLog() {
        return Edge.joined(Edge.logEntry(1, 11, 1), Edge.logEntry(2, 0x1616, 2), Edge.logEntry(1, 0, Edge.DROPPED),
            Edge.logEntry(3, -3, 8));
    }

    private static int[] front(int[] bytes, int kept) {
        int[] front = new int[kept];
        System.arraycopy(bytes, 0, front, 0, kept);
        return front;
    }

    private static void promise14() {
        Edge.test(14, "Byte i of the log: the first and the last, 0 .. 255", () -> {
            RunStore x = Edge.after(0, EdgeLogTest::rows);
            Edge.log(x, rowsLog());
            Expect.equal("the last one of all", x.logged(50), (3 + 8 + 7 * 255 + 253) % 256);
        });
        Edge.test(14, "Byte i of the log: 1024 of them", () -> {
            RunStore x = Edge.after(0, y -> Edge.fillLog(y, 1024));
            Expect.equal("the first", x.logged(0), 0);
            Expect.equal("the last, a sum", x.logged(1023), sumByte(x));
            Expect.refuses("behind it", Edge.INDEX, () -> x.logged(1024));
        });
        Edge.test(14, "Byte i of the log: nothing is counted or told", () ->
            Edge.onlyLooks(0, x -> {
                Edge.tableOf(x, 1, 1, 1);
                x.poke(0, 0, 1);
                Expect.refuses("find", Edge.STATE, () -> x.find(1));
                rows(x);
            }, x -> x.logged(50)));
    }

    /** The sum due behind the last entry of a log that fillLog() filled: key 0, so length and value alone. */
    private static int sumByte(RunStore x) {
        int n = x.length(0);
        int sum = n;
        for (int i = 0; i < n; i++) {
            sum += x.logged(1022 - i);
        }
        return sum % 256;
    }

    private static void promise14Refusals() {
        Edge.test(14, "IndexOutOfBoundsException, when there is none: an empty log", () -> {
            for (int i : new int[] {-1, 0, 1, 1023, 1024, Edge.MIN, Edge.MAX}) {
                Edge.refused(Edge.INDEX, 0, x -> { }, x -> x.logged(i));
            }
        });
        Edge.test(14, "IndexOutOfBoundsException, when there is none: before the first, behind the last", () -> {
            for (int i : new int[] {-1, 51, 52, 1023, 1024, Edge.MIN, Edge.MAX}) {
                Edge.refused(Edge.INDEX, 0, EdgeLogTest::rows, x -> x.logged(i));
            }
        });
        Edge.test(14, "IndexOutOfBoundsException, when there is none: after flush()", () ->
            Edge.refused(Edge.INDEX, 0, x -> {
                rows(x);
                x.flush();
            }, x -> x.logged(0)));
        Edge.test(14, "IndexOutOfBoundsException, when there is none: cut off by crash()", () -> {
            RunStore x = Edge.after(0, EdgeLogTest::rows);
            x.crash(50, -1, 0);
            Expect.equal("the last that is left", x.logged(32), 0);
            Expect.refuses("behind it", Edge.INDEX, () -> x.logged(33));
            Expect.refuses("kept, but not whole", Edge.INDEX, () -> x.logged(49));
        });
        Edge.test(14, "IndexOutOfBoundsException, when there is none: a refused put() logs nothing", () -> {
            RunStore x = Edge.after(0, EdgeLogTest::rows);
            Expect.refuses("put", Edge.ARGUMENT, () -> x.put(1, 1, 9));
            Expect.refuses("logged", Edge.INDEX, () -> x.logged(51));
        });
    }

    private static void promise15Kept() {
        Edge.test(15, "the log is cut to its first kept bytes: none of them", () -> {
            RunStore x = Edge.after(0, EdgeLogTest::rows);
            Expect.equal("crash", x.crash(0, -1, 0), 0);
            Edge.log(x);
            for (long key = 1; key <= 3; key++) {
                Expect.equal("memory is lost", x.length(key), -1);
            }
        });
        Edge.test(15, "the log is cut to its first kept bytes: all of them", () -> {
            RunStore x = Edge.after(0, EdgeLogTest::rows);
            Expect.equal("crash", x.crash(51, -1, 0), 3);
            Edge.log(x, rowsLog());
            Expect.equal("dropped", x.length(1), -1);
            Expect.equal("row 2", x.find(2), 0x1616);
            Expect.equal("row 3", x.find(3), -3);
        });
        Edge.test(15, "the log is cut to its first kept bytes: an empty log", () -> {
            RunStore x = new RunStore(0);
            Expect.equal("of a new store", x.crash(0, -1, 0), 0);
            Edge.tableOf(x, 1, 1, 1);
            Expect.equal("after flush", x.crash(0, -1, 255), 0);
            Expect.equal("tables stay", x.find(1), 1);
        });
        Edge.test(15, "the log is cut to its first kept bytes: a full log", () -> {
            RunStore x = Edge.after(0, y -> Edge.fillLog(y, 1024));
            Expect.equal("crash", x.crash(1024, -1, 0), 1);
            Expect.equal("the log", x.count(2), 1024);
            Expect.refuses("is full still", Edge.UNSUPPORTED, () -> x.drop(0));
            Expect.equal("a byte less", x.crash(1023, -1, 0), 1);
            Expect.isTrue("its last entry is cut off", x.count(2) <= 1014 && x.count(2) >= 1006);
        });
        Edge.test(15, "its entries are done again: 24 keys, and again those", () -> {
            RunStore x = new RunStore(0);
            Edge.putKeys(x, 0, 24, 1);
            Edge.putKeys(x, 0, 24, 2);
            x.drop(23);
            Expect.equal("crash", x.crash(x.count(2), -1, 0), 24);
            Expect.equal("the later one", x.length(22), 2);
            Expect.equal("the mark", x.length(23), -1);
        });
        Edge.test(15, "how many keys memory has: marks are keys, too", () -> {
            RunStore x = new RunStore(0);
            x.drop(1);
            x.drop(2);
            Expect.equal("crash", x.crash(20, -1, 0), 2);
            Expect.equal("a cut", x.crash(19, -1, 0), 1);
        });
    }

    private static void promise15Mask() {
        Edge.test(15, "i NONE: none: whatever the mask", () -> {
            for (int mask : new int[] {0, 1, 255, -1, Edge.MIN}) {
                RunStore x = Edge.after(0, EdgeLogTest::rows);
                Expect.equal("crash", x.crash(51, -1, mask), 3);
                Edge.log(x, rowsLog());
            }
        });
        Edge.test(15, "exclusive or with a mask's lowest 8 bits: what is above them does nothing", () -> {
            for (int mask : new int[] {0, 256, -256, Edge.MIN}) {
                RunStore x = Edge.after(0, EdgeLogTest::rows);
                Expect.equal("crash by " + mask, x.crash(51, 0, mask), 3);
                Edge.log(x, rowsLog());
            }
        });
        Edge.test(15, "exclusive or with a mask's lowest 8 bits: each of them alters", () -> {
            for (int bit = 0; bit < 8; bit++) {
                RunStore x = Edge.after(0, EdgeLogTest::rows);
                Expect.equal("crash by bit " + bit, x.crash(51, 0, 256 | 1 << bit), 0);
                Edge.log(x);
            }
            RunStore y = Edge.after(0, EdgeLogTest::rows);
            Expect.equal("crash by -1", y.crash(51, 50, -1), 2);
        });
        Edge.test(15, "with byte i of these: the first, and the last one kept", () -> {
            for (int kept : new int[] {11, 23, 33, 51}) {
                RunStore x = Edge.after(0, EdgeLogTest::rows);
                Expect.equal("the first", x.crash(kept, 0, 1), 0);
                RunStore y = Edge.after(0, EdgeLogTest::rows);
                int before = kept == 11 ? 0 : kept == 23 ? 1 : kept == 33 ? 2 : 3;
                Expect.equal("the last", y.crash(kept, kept - 1, 1), KEYS[before]);
                Edge.log(y, front(rowsLog(), ENDS[before]));
            }
        });
        Edge.test(15, "(an entry with another length than it had may be right by chance): a longer one", () -> {
            RunStore x = new RunStore(0);
            x.put(0x0101010101010101L, 0, 0);
            x.put(0x1100000000000000L, 0, 0);
            // Its sum 8 is read as the value; 8 + 1 + 8 is 17, the next key's first byte.
            Expect.equal("crash", x.crash(20, 8, 1), 1);
            Edge.log(x, 1, 1, 1, 1, 1, 1, 1, 1, 1, 8, 17);
            Expect.equal("its length", x.length(0x0101010101010101L), 1);
            Expect.equal("its value", x.find(0x0101010101010101L), 8);
        });
        Edge.test(15, "(an entry with another length than it had may be right by chance): a shorter one", () -> {
            RunStore x = Edge.after(0, y -> reframed(y, 0, 0, 0));
            Expect.equal("crash", x.crash(28, 8, 8), 2);
            Expect.equal("no value now", x.length(24), 0);
            Expect.equal("a key out of its value", x.length(REFRAMED), 0);
            Edge.log(x, 0, 0, 0, 0, 0, 0, 0, 24, 0, 24, 0, 0, 0, 0, 0, 0, 100, 156, 0, 0);
        });
    }

    /**
     * Key 24 with 8 bytes: with a length of 0 its value's first byte is the sum that is due, and what
     * follows (six times 0, 100, and the sum 156) is read as the next key.
     */
    private static final long REFRAMED = 100 * 256 + 156;

    /** What is read as REFRAMED's length, and what is behind that, is the next key: length and 7 bytes. */
    private static void reframed(RunStore x, int length, long rest, int n) {
        x.put(24, 24L << 56 | 100, 8);
        x.put((long) length << 56 | rest, n == 2 ? 11 : 9, n);
    }

    private static void promise15NotWhole() {
        for (int kept = 0; kept <= 51; kept++) {
            int bytes = kept;
            Edge.test(15, "until one is not whole: " + kept + " bytes", () -> {
                int whole = 0;
                while (whole < 4 && ENDS[whole + 1] <= bytes) {
                    whole++;
                }
                RunStore x = Edge.after(0, EdgeLogTest::rows);
                Expect.equal("crash", x.crash(bytes, -1, 0), KEYS[whole]);
                Expect.equal("keys of memory", x.count(1), KEYS[whole]);
                Edge.log(x, front(rowsLog(), ENDS[whole]));
                Expect.equal("row 1", x.length(1), whole == 1 || whole == 2 ? 1 : -1);
                Expect.equal("row 2", x.length(2), whole >= 2 ? 2 : -1);
                Expect.equal("row 3", x.length(3), whole == 4 ? 8 : -1);
            });
        }
        Edge.test(15, "until one is not whole: by a length that goes beyond the end", () -> {
            for (int length = 2; length <= 8; length++) {
                RunStore x = new RunStore(0);
                x.put(5, 5, 0);
                x.put(1, 2, 1);
                Expect.equal("length " + length, x.crash(21, 18, 1 ^ length), 1);
                Edge.log(x, Edge.logEntry(5, 5, 0));
            }
        });
    }

    private static void promise15Lengths() {
        Edge.test(15, "its length is none: 9 to 254, each with a sum that would be right without a value", () -> {
            for (int length = 9; length <= 254; length++) {
                RunStore x = new RunStore(0);
                reframed(x, length, (long) length << 48, 0);
                Expect.equal("length " + length, x.crash(28, 8, 8), 1);
                Expect.equal("it is cut there", x.count(2), 10);
                Expect.equal("it is not done", x.length(REFRAMED), -1);
            }
        });
        Edge.test(15, "its length is none: 255 is one", () -> {
            RunStore x = new RunStore(0);
            reframed(x, 255, 255L << 48, 0);
            Expect.equal("crash", x.crash(28, 8, 8), 2);
            Expect.equal("its log", x.count(2), 20);
            Expect.equal("a mark", x.length(REFRAMED), -1);
            x.flush();
            Expect.equal("as a table has it", x.byteAt(0, 17), 255);
        });
        Edge.test(15, "its length is none: 9 with a sum that would be right behind 9 bytes", () -> {
            RunStore x = new RunStore(0);
            // as a value seven times 0, 2 and 0; then 11 is 9 + 2
            reframed(x, 9, 0, 2);
            Expect.equal("crash", x.crash(30, 8, 8), 1);
            Expect.equal("it is cut there", x.count(2), 10);
        });
        Edge.test(15, "its length is none: 8 is one", () -> {
            RunStore x = new RunStore(0);
            // as a value seven times 0, and 1; then 9 is 8 + 1
            reframed(x, 8, 0, 1);
            Expect.equal("crash", x.crash(29, 8, 8), 2);
            Expect.equal("its length", x.length(REFRAMED), 8);
            Expect.equal("its value", x.find(REFRAMED), 1);
            Expect.equal("its log", x.count(2), 10 + 18);
        });
        Edge.test(15, "its length is none: what is behind it is not done, though it is whole", () -> {
            RunStore x = Edge.after(0, EdgeLogTest::rows);
            Expect.equal("crash", x.crash(51, 19, 32), 1);
            Edge.log(x, Edge.logEntry(1, 11, 1));
            Expect.equal("row 3", x.length(3), -1);
            Expect.equal("row 1 is not dropped", x.length(1), 1);
        });
    }

    private static void promise15Sums() {
        Edge.test(15, "its sum is not right: by each bit of the sum", () -> {
            for (int bit = 0; bit < 8; bit++) {
                RunStore x = Edge.after(0, EdgeLogTest::rows);
                Expect.equal("crash", x.crash(51, 22, 1 << bit), 1);
                Edge.log(x, Edge.logEntry(1, 11, 1));
            }
        });
        Edge.test(15, "its sum is not right: by each byte of a key and of a value", () -> {
            for (int i = 0; i < 51; i++) {
                int entry = i < 11 ? 0 : i < 23 ? 1 : i < 33 ? 2 : 3;
                if (i == ENDS[entry] + 8) {
                    continue;
                }
                RunStore x = Edge.after(0, EdgeLogTest::rows);
                Expect.equal("crash with byte " + i, x.crash(51, i, 128), KEYS[entry]);
                Edge.log(x, front(rowsLog(), ENDS[entry]));
            }
        });
        Edge.test(15, "the sum of the entry's bytes, its lowest 8 bits: sums of 255, 256 and above are right", () -> {
            RunStore x = new RunStore(0);
            x.put(255, 0, 0);
            x.put(255, 0, 1);
            x.put(-1, -1, 8);
            x.drop(-1);
            x.drop(0);
            Expect.equal("crash", x.crash(x.count(2), -1, 0), 3);
            Expect.equal("the log", x.count(2), 10 + 11 + 18 + 10 + 10);
        });
    }

    private static void promise15TwentyFifth() {
        Edge.test(15, "or its key would be the 25th", () -> {
            RunStore x = new RunStore(0);
            Edge.putKeys(x, 0, 23, 0);
            reframed(x, 0, 0, 0);
            x.put(5, 5, 5);
            Expect.equal("crash", x.crash(x.count(2), 238, 8), 24);
            Expect.equal("it is cut there", x.count(2), 240);
            Expect.equal("the 24th", x.length(24), 0);
            Expect.equal("a 25th", x.length(REFRAMED), -1);
            Expect.equal("what was behind it is not done", x.length(5), 0);
        });
        Edge.test(15, "or its key would be the 25th: the 24th is done", () -> {
            RunStore x = new RunStore(0);
            Edge.putKeys(x, 0, 22, 0);
            reframed(x, 0, 0, 0);
            Expect.equal("crash", x.crash(x.count(2), 228, 8), 24);
            Expect.equal("the log", x.count(2), 240);
            Expect.equal("the 24th", x.length(REFRAMED), 0);
        });
        Edge.test(15, "or its key would be the 25th: one of the 24 is done", () -> {
            RunStore x = new RunStore(0);
            Edge.putKeys(x, 0, 22, 0);
            x.put(REFRAMED, 3, 3);
            reframed(x, 0, 0, 0);
            Expect.equal("crash", x.crash(x.count(2), 220 + 13 + 8, 8), 24);
            Expect.equal("the log", x.count(2), 220 + 13 + 20);
            Expect.equal("done again", x.length(REFRAMED), 0);
        });
    }

    private static void promise15State() {
        Edge.test(15, "it is cut there: put() and crash() go on from there", () -> {
            RunStore x = Edge.after(0, EdgeLogTest::rows);
            x.crash(40, -1, 0);
            Expect.equal("put", x.put(9, 9, 1), 3);
            Edge.log(x, Edge.joined(front(rowsLog(), 33), Edge.logEntry(9, 9, 1)));
            Expect.equal("crash again", x.crash(44, -1, 0), 3);
            Expect.equal("its row", x.find(9), 9);
            Expect.refuses("more than is left", Edge.ARGUMENT, () -> x.crash(45, -1, 0));
        });
        Edge.test(15, "memory is lost: tables, blocks, badAt() and counts are not", () -> {
            RunStore x = new RunStore(0);
            Edge.tableOf(x, 1, 7, 3);
            x.find(2);
            x.poke(0, 0, 1);
            Expect.refuses("find", Edge.STATE, () -> x.find(1));
            x.put(1, 1, 1);
            Expect.equal("crash", x.crash(3, 1, 1), 0);
            Expect.equal("badAt", x.badAt(), 0);
            int[] due = {4, 0, 0, 1, 3, 1, 1, 1};
            for (int what = 0; what < 8; what++) {
                Expect.equal("count(" + what + ")", x.count(what), due[what]);
            }
            x.poke(0, 0, 1);
            Expect.equal("the table's row", x.length(1), 3);
        });
        Edge.test(15, "memory is lost: a mark, and what it dropped is there again", () -> {
            RunStore x = new RunStore(0);
            Edge.tableOf(x, 1, 7, 3);
            x.drop(1);
            Expect.equal("dropped", x.length(1), -1);
            x.crash(9, -1, 0);
            Expect.equal("there again", x.length(1), 3);
        });
        Edge.test(15, "memory is lost: room for 24 keys and 1024 bytes", () -> {
            RunStore x = new RunStore(0);
            Edge.putKeys(x, 0, 24, 8);
            x.crash(0, -1, 0);
            Edge.putKeys(x, 100, 24, 0);
            Expect.equal("keys", x.count(1), 24);
            x.crash(0, -1, 0);
            Edge.fillLog(x, 1024);
        });
    }

    private static void promise15Refusals() {
        Edge.test(15, "IllegalArgumentException, when kept is not 0 up to the log's length", () -> {
            for (int kept : new int[] {-1, 52, 1024, Edge.MIN, Edge.MAX}) {
                Edge.refused(Edge.ARGUMENT, 0, EdgeLogTest::rows, x -> x.crash(kept, -1, 255));
                Edge.refused(Edge.ARGUMENT, 0, EdgeLogTest::rows, x -> x.crash(kept, 0, 255));
            }
        });
        Edge.test(15, "IllegalArgumentException, when kept is not 0 up to the log's length: an empty log", () -> {
            for (int kept : new int[] {-1, 1, Edge.MIN, Edge.MAX}) {
                Edge.refused(Edge.ARGUMENT, 0, x -> Edge.tableOf(x, 1, 1, 1), x -> x.crash(kept, -1, 0));
            }
        });
        Edge.test(15, "IllegalArgumentException, when kept is not 0 up to the log's length: a full log", () -> {
            Edge.refused(Edge.ARGUMENT, 0, x -> Edge.fillLog(x, 1024), x -> x.crash(1025, -1, 0));
            Edge.refused(Edge.ARGUMENT, 0, x -> Edge.fillLog(x, 1024), x -> x.crash(-1, -1, 0));
        });
        Edge.test(15, "or i not NONE up to kept, less 1: all is kept", () -> {
            for (int i : new int[] {-2, 51, 52, Edge.MIN, Edge.MAX}) {
                Edge.refused(Edge.ARGUMENT, 0, EdgeLogTest::rows, x -> x.crash(51, i, 255));
            }
        });
        Edge.test(15, "or i not NONE up to kept, less 1: in the log, but not kept", () -> {
            for (int i : new int[] {11, 12, 50}) {
                Edge.refused(Edge.ARGUMENT, 0, EdgeLogTest::rows, x -> x.crash(11, i, 0));
            }
        });
        Edge.test(15, "or i not NONE up to kept, less 1: nothing is kept", () -> {
            for (int i : new int[] {-2, 0, 1}) {
                Edge.refused(Edge.ARGUMENT, 0, EdgeLogTest::rows, x -> x.crash(0, i, 0));
                Edge.refused(Edge.ARGUMENT, 0, x -> { }, x -> x.crash(0, i, 0));
            }
        });
        Edge.test(15, "when kept is not 0 up to the log's length, or i not NONE up to kept, less 1: both", () -> {
            Edge.refused(Edge.ARGUMENT, 0, EdgeLogTest::rows, x -> x.crash(-1, -2, 1));
            Edge.refused(Edge.ARGUMENT, 0, EdgeLogTest::rows, x -> x.crash(52, 52, 1));
        });
    }
}
