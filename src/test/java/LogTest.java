/** Promises 14 and 15: the log and crashes. */
public final class LogTest {
    private static final Class<IllegalArgumentException> ARGUMENT = IllegalArgumentException.class;
    private static final Class<IndexOutOfBoundsException> INDEX = IndexOutOfBoundsException.class;

    public static void main(String[] args) {
        promise14();
        promise15Cuts();
        promise15Alterings();
        promise15Lengths();
        promise15TwentyFifth();
        promise15Refusals();
        Expect.end("LogTest");
    }

    private static void promise14() {
        RunStore x = new RunStore(1);
        Expect.refusesAndKeeps("an empty log", INDEX, x, () -> x.logged(0));
        x.put(0x8001020304050607L, 0xFFFEFDFCL, 3);
        x.drop(-1);
        int[] due = {0x80, 1, 2, 3, 4, 5, 6, 7, 3, 0xFE, 0xFD, 0xFC,
            (0x80 + 28 + 3 + 0xFE + 0xFD + 0xFC) % 256,
            255, 255, 255, 255, 255, 255, 255, 255, 255, 9 * 255 % 256};
        Expect.equal("its length", x.count(2), due.length);
        for (int i = 0; i < due.length; i++) {
            Expect.equal("logged(" + i + ")", x.logged(i), due[i]);
        }
        for (int i : new int[] {-1, due.length, 1024, Integer.MAX_VALUE, Integer.MIN_VALUE}) {
            Expect.refusesAndKeeps("logged(" + i + ")", INDEX, x, () -> x.logged(i));
        }
        x.flush();
        Expect.refuses("emptied by flush", INDEX, () -> x.logged(0));
    }

    /** Entries of 11, 12, 10 and 18 bytes. */
    private static RunStore four() {
        RunStore x = new RunStore(1);
        x.put(1, 11, 1);
        x.put(2, 0x1616, 2);
        x.drop(1);
        x.put(3, -3, 8);
        return x;
    }

    private static void promise15Cuts() {
        int[] ends = {0, 11, 23, 33, 51};
        int[] keys = {0, 1, 2, 2, 3};
        for (int kept = 0; kept <= 51; kept++) {
            RunStore x = four();
            int whole = 0;
            while (whole < 4 && ends[whole + 1] <= kept) {
                whole++;
            }
            String name = "crash(" + kept + ")";
            Expect.equal(name, x.crash(kept, -1, 255), keys[whole]);
            Expect.equal(name + " log", x.count(2), ends[whole]);
            Expect.equal(name + " keys", x.count(1), keys[whole]);
            Expect.equal(name + " length(1)", x.length(1), whole == 0 || whole > 2 ? -1 : 1);
            Expect.equal(name + " find(2)", x.find(2), whole > 1 ? 0x1616 : 0);
            Expect.equal(name + " find(3)", x.find(3), whole > 3 ? -3 : 0);
            Expect.equal(name + " goes on", x.put(9, 9, 0), keys[whole] + 1);
            Expect.equal(name + " logs on", x.count(2), ends[whole] + 10);
            Expect.equal(name + " again", x.crash(x.count(2), -1, 0), keys[whole] + 1);
        }
        RunStore y = four();
        y.flush();
        y.put(1, 5, 1);
        Expect.equal("tables stay", y.crash(3, 2, 1), 0);
        Expect.equal("what a table has", y.find(3), -3);
        Expect.equal("what a table marks", y.length(1), -1);
        Expect.equal("an empty log", y.crash(0, -1, 0), 0);
    }

    private static void promise15Alterings() {
        int[] ends = {0, 11, 23, 33, 51};
        int[] keys = {0, 1, 2, 2, 3};
        for (int i = 0; i < 51; i++) {
            RunStore x = four();
            int whole = 0;
            while (ends[whole + 1] <= i) {
                whole++;
            }
            boolean isLength = i == ends[whole] + 8;
            // A length of 8 more is none, and of 8 less is one that the sum does not fit.
            int mask = isLength ? 8 : 1;
            Expect.equal("crash with byte " + i, x.crash(51, i, mask), keys[whole]);
            Expect.equal("cut at its entry", x.count(2), ends[whole]);
            RunStore y = four();
            Expect.equal("a mask of 256", y.crash(51, i, 256), 3);
            Expect.equal("the whole log", y.count(2), 51);
        }
    }

    private static void promise15Lengths() {
        // Behind a length of 1 for 0, the sum is read as the value and the next key's first byte as the sum.
        RunStore x = new RunStore(1);
        x.put(0x0101010101010101L, 0, 0);
        x.put(0x1100000000000000L, 0, 0);
        // sum 8; altered: 8 + 1 + 8 = 17 = 0x11, right by chance
        Expect.equal("right by chance", x.crash(20, 8, 1), 1);
        Expect.equal("its log", x.count(2), 11);
        Expect.equal("its length", x.length(0x0101010101010101L), 1);
        Expect.equal("its value", x.find(0x0101010101010101L), 8);
        Expect.equal("the log keeps what was altered", x.logged(8), 1);
        Expect.equal("done again", x.crash(11, -1, 0), 1);

        // A length of 9 whose sum would be right is none all the same.
        RunStore y = new RunStore(1);
        y.put(0, 0x08, 8);
        y.put(0x2100000000000000L, 0, 0);
        // key 0, 9, value 8, sum 16: 9 + 8 + 16 = 33 is the sum due behind nine bytes
        y.crash(28, -1, 0);
        Expect.equal("two keys", y.count(1), 2);
        Expect.equal("a length of 9 is none", y.crash(28, 8, 1), 0);
        Expect.equal("nothing is left", y.count(2), 0);

        RunStore v = new RunStore(1);
        v.put(0x7F7F7F7F7F7F7F7FL, 0x7E7EL, 2);
        Expect.equal("a sum above 127", v.logged(11), (8 * 127 + 2 + 2 * 126) % 256);
        v.put(200, 0, 0);
        Expect.equal("a sum of 200", v.logged(21), 200);
        Expect.equal("both are right", v.crash(22, -1, 0), 2);
        Expect.equal("the highest bit counts", v.crash(22, 21, 128), 1);

        RunStore z = new RunStore(1);
        z.drop(1);
        z.drop(2);
        Expect.equal("a mark's length of 254", z.crash(20, 8, 1), 0);
        RunStore w = new RunStore(1);
        w.put(1, 2, 1);
        Expect.equal("a length beyond the end", w.crash(11, 8, 3), 0);
        Expect.equal("is cut", w.count(2), 0);
    }

    /**
     * By a length altered from 8 to 0, what was a value is read as another key: the 25th, when 23
     * keys came before the altered entry, which is right by chance.
     */
    private static void promise15TwentyFifth() {
        for (int before = 22; before <= 23; before++) {
            RunStore x = new RunStore(1);
            for (int k = 0; k < before; k++) {
                x.put(k, 0, 0);
            }
            // The value's first byte is the sum of the altered entry; its sum is 24 + 8 + 24 + 100.
            x.put(24, (24L << 56) | 100, 8);
            x.put(0, 0, 0);
            long read = 100 * 256 + 156;
            int altered = 10 * before + 8;
            Expect.equal("keys", x.crash(x.count(2), altered, 8), 24);
            Expect.equal("its log", x.count(2), 240);
            Expect.equal("the altered one", x.length(24), 0);
            Expect.equal("a 24th is done, a 25th is not", x.length(read), before == 22 ? 0 : -1);
        }
    }

    private static void promise15Refusals() {
        RunStore x = four();
        int[][] none = {{-1, -1}, {52, -1}, {Integer.MAX_VALUE, -1}, {Integer.MIN_VALUE, -1}, {51, 51}, {51, -2},
            {10, 10}, {10, 50}, {0, 0}, {51, Integer.MAX_VALUE}, {51, Integer.MIN_VALUE}, {-1, -2}};
        for (int[] c : none) {
            Expect.refusesAndKeeps("crash(" + c[0] + ", " + c[1] + ")", ARGUMENT, x, () -> x.crash(c[0], c[1], 255));
        }
        Expect.equal("memory is kept", x.find(3), -3);
        Expect.equal("the last byte may be altered", x.crash(51, 50, 255), 2);
        Expect.equal("and the first", x.crash(33, 0, 255), 0);
    }
}
