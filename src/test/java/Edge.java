import java.math.BigInteger;
import java.util.ArrayList;
import java.util.List;
import java.util.TreeMap;

/**
 * What the tests of boundary cases share. Each of these tests bears the number of its promise and
 * the words of the document that it tests, and none uses a store for more than 512 calls.
 */
final class Edge {
    interface Run {
        void on(RunStore x);
    }

    private interface Look {
        long at(RunStore x);
    }

    static final Class<IllegalArgumentException> ARGUMENT = IllegalArgumentException.class;
    static final Class<IllegalStateException> STATE = IllegalStateException.class;
    static final Class<UnsupportedOperationException> UNSUPPORTED = UnsupportedOperationException.class;
    static final Class<IndexOutOfBoundsException> INDEX = IndexOutOfBoundsException.class;

    static final int MIN = Integer.MIN_VALUE;
    static final int MAX = Integer.MAX_VALUE;
    static final int DROPPED = 255;

    /** So many looks are made at one store: what is left of its 512 calls is for the run before. */
    private static final int LOOKS_AT_ONE = 150;

    private static final TreeMap<Integer, Integer> TESTS = new TreeMap<>();

    private Edge() {
    }

    static void test(int promise, String words, Expect.Call body) {
        TESTS.merge(promise, 1, Integer::sum);
        Expect.named("promise " + promise + ", \"" + words + "\"", body);
    }

    static void end(String name) {
        System.out.println(name + ": tests by promise " + TESTS);
        Expect.end(name);
    }

    static RunStore after(int blocks, Run run) {
        RunStore x = new RunStore(blocks);
        run.on(x);
        return x;
    }

    /** A call that is refused, and changes nothing at all. */
    static void refused(Class<? extends RuntimeException> due, int blocks, Run run, Run call) {
        changesOnly(due, blocks, run, call, after(blocks, run).badAt(), 0, 0);
    }

    /** A call that faults: it changes nothing but badAt() and what was checked and passed by. */
    static void fault(int blocks, Run run, Run call, int bad, int checked, int passed) {
        changesOnly(STATE, blocks, run, call, bad, checked, passed);
    }

    static void changesOnly(Class<? extends RuntimeException> due, int blocks, Run run, Run call,
            int bad, int checked, int passed) {
        RunStore x = after(blocks, run);
        int checkedBefore = x.count(5);
        int passedBefore = x.count(6);
        Expect.refuses("the call", due, () -> call.on(x));
        Expect.equal("badAt() afterwards", x.badAt(), bad);
        Expect.equal("blocks checked by it", x.count(5) - checkedBefore, checked);
        Expect.equal("tables passed by by it", x.count(6) - passedBefore, passed);
        Expect.same("the state afterwards", seen(blocks, y -> {
            run.on(y);
            tried(y, call);
        }), seen(blocks, run));
    }

    /** A call that counts, checks and tells nothing: all that can be seen stays. */
    static void onlyLooks(int blocks, Run run, Run call) {
        RunStore x = after(blocks, run);
        int checked = x.count(5);
        int passed = x.count(6);
        int bad = x.badAt();
        call.on(x);
        Expect.equal("blocks checked stay", x.count(5), checked);
        Expect.equal("tables passed by stay", x.count(6), passed);
        Expect.equal("badAt() stays", x.badAt(), bad);
        Expect.same("the state stays", seen(blocks, y -> {
            run.on(y);
            call.on(y);
        }), seen(blocks, run));
    }

    private static void tried(RunStore x, Run call) {
        try {
            call.on(x);
        } catch (RuntimeException e) {
            // which one it is, is looked at elsewhere
        }
    }

    /**
     * All that can be seen after a run, but for badAt() and what was checked and passed by. The run
     * is done again and again on new stores, since one of them has too few calls to show it all.
     */
    static String seen(int blocks, Run run) {
        List<Look> looks = looks(after(blocks, run));
        StringBuilder all = new StringBuilder();
        RunStore x = null;
        for (int i = 0; i < looks.size(); i++) {
            if (i % LOOKS_AT_ONE == 0) {
                x = after(blocks, run);
            }
            all.append(i == 0 ? "" : " ").append(answer(x, looks.get(i)));
        }
        return all.toString();
    }

    private static String answer(RunStore x, Look look) {
        try {
            return Long.toString(look.at(x));
        } catch (RuntimeException e) {
            return e.getClass().getSimpleName();
        }
    }

    private static List<Look> looks(RunStore sized) {
        List<Look> looks = new ArrayList<>();
        for (int what : new int[] {0, 1, 2, 3, 4, 7}) {
            looks.add(x -> x.count(what));
        }
        looks.add(RunStore::check);
        int logged = sized.count(2);
        for (int i = 0; i < logged; i++) {
            int at = i;
            looks.add(x -> x.logged(at));
        }
        int tables = sized.count(3);
        for (int t = 0; t < tables; t++) {
            lookAtTable(looks, t);
        }
        int blocks = sized.count(0);
        for (int b = 0; b < blocks; b++) {
            lookAtBlock(looks, b);
        }
        for (long key = -6; key <= 30; key++) {
            lookForKey(looks, key);
        }
        lookForKey(looks, Long.MIN_VALUE);
        lookForKey(looks, Long.MAX_VALUE);
        return looks;
    }

    private static void lookAtTable(List<Look> looks, int t) {
        for (int what = 0; what < 4; what++) {
            int asked = what;
            looks.add(x -> x.table(t, asked));
        }
        for (long key = -6; key <= 30; key++) {
            long asked = key;
            looks.add(x -> x.may(t, asked) ? 1 : 0);
        }
    }

    private static void lookAtBlock(List<Look> looks, int b) {
        looks.add(x -> x.sum(b));
        for (int i = 0; i < 32; i++) {
            int at = i;
            looks.add(x -> x.byteAt(b, at));
        }
    }

    private static void lookForKey(List<Look> looks, long key) {
        looks.add(x -> x.length(key));
        looks.add(x -> x.find(key));
        looks.add(x -> x.after(key));
    }

    /** An entry's bytes; n is 0 to 8, or DROPPED. */
    static int[] entry(long key, long v, int n) {
        int size = n == DROPPED ? 0 : n;
        int[] bytes = new int[9 + size];
        for (int i = 0; i < 8; i++) {
            bytes[i] = byteOf(key, 7 - i);
        }
        bytes[8] = n;
        for (int i = 0; i < size; i++) {
            bytes[9 + i] = byteOf(v, size - 1 - i);
        }
        return bytes;
    }

    /** As it is logged: with the lowest 8 bits of its bytes' sum behind it. */
    static int[] logEntry(long key, long v, int n) {
        int sum = 0;
        for (int b : entry(key, v, n)) {
            sum += b;
        }
        return joined(entry(key, v, n), new int[] {sum % 256});
    }

    static int[] joined(int[]... parts) {
        List<Integer> all = new ArrayList<>();
        for (int[] part : parts) {
            for (int b : part) {
                all.add(b);
            }
        }
        return all.stream().mapToInt(b -> b).toArray();
    }

    private static int byteOf(long number, int place) {
        return BigInteger.valueOf(number).shiftRight(8 * place).and(BigInteger.valueOf(255)).intValue();
    }

    /** The log is these bytes and no more. */
    static void log(RunStore x, int... due) {
        Expect.equal("the log's length", x.count(2), due.length);
        for (int i = 0; i < due.length; i++) {
            Expect.equal("logged(" + i + ")", x.logged(i), due[i]);
        }
        Expect.refuses("logged behind it", INDEX, () -> x.logged(due.length));
    }

    /** The bytes of blocks, one behind the other, and 0 up to the end of the last one. */
    static void blocks(RunStore x, int[] ids, int... due) {
        for (int at = 0; at < ids.length * 32; at++) {
            Expect.equal("byte " + at % 32 + " of block " + ids[at / 32],
                x.byteAt(ids[at / 32], at % 32), at < due.length ? due[at] : 0);
        }
    }

    /** The sum that the k-th block of a table has for the bytes that it has now. */
    static int sumOf(RunStore x, int block, int k) {
        BigInteger all = BigInteger.ONE.shiftLeft(32);
        BigInteger s = BigInteger.valueOf(k);
        for (int i = 0; i < 32; i++) {
            s = s.xor(BigInteger.valueOf(x.byteAt(block, i)));
            s = s.shiftLeft(15).or(s.shiftRight(17)).mod(all);
            s = s.multiply(BigInteger.valueOf(374761393)).mod(all);
        }
        return s.intValue();
    }

    /** The two bits of a key in a filter. */
    static int[] bits(long key) {
        BigInteger h = BigInteger.valueOf(key).multiply(new BigInteger("-7046029254386353131"))
            .mod(BigInteger.ONE.shiftLeft(64));
        return new int[] {h.shiftRight(58).intValue(), h.shiftRight(52).intValue() % 64};
    }

    static boolean passes(long filterKey, long key) {
        return hasBit(filterKey, bits(key)[0]) && hasBit(filterKey, bits(key)[1]);
    }

    static boolean hasBit(long filterKey, int bit) {
        return bits(filterKey)[0] == bit || bits(filterKey)[1] == bit;
    }

    /** Puts and drops of key 0 that make an empty log so many bytes long (10 to 1024, but not 19). */
    static void fillLog(RunStore x, int bytes) {
        int left = bytes;
        for (int entries = (bytes + 17) / 18; entries > 0; entries--) {
            int next = (left + entries - 1) / entries;
            x.put(0, entries, next - 10);
            left -= next;
        }
        Expect.equal("the log is filled", x.count(2), bytes);
    }

    /** Puts of so many keys from one up, with n bytes each. */
    static void putKeys(RunStore x, long from, int keys, int n) {
        for (int k = 0; k < keys; k++) {
            x.put(from + k, from + k, n);
        }
    }

    /** A table of level 0 with one row of n bytes. */
    static void tableOf(RunStore x, long key, long v, int n) {
        x.put(key, v, n);
        x.flush();
    }

    /** A table of a level, out of one row; the levels before it must have no tables. */
    static void tableOnLevel(RunStore x, int level, long key, long v) {
        tableOf(x, key, v, 8);
        for (int to = 0; to < level; to++) {
            x.join(to);
        }
    }
}
