import java.util.Random;

/** Runs of calls by chance (the same ones each time), each answered by the class and by the model. */
public final class ModelTest {
    private static final int RUNS = 1500;
    private static final int CALLS = 512;
    private static final int FORGED_RUNS = 150;
    private static final int FORGERIES = 2;

    private static int forged;

    private final Random chance;
    private final RunStore store;
    private final Model model;
    private final int keys;
    private final int style;

    private interface Answer {
        long get();
    }

    private ModelTest(int seed) {
        chance = new Random(seed);
        int blocks = chance.nextInt(4) == 0 ? chance.nextInt() : chance.nextInt(400) - 200;
        store = new RunStore(blocks);
        model = new Model(blocks);
        keys = new int[] {3, 12, 24, 40, 200, 1000}[chance.nextInt(6)];
        style = chance.nextInt(4);
    }

    public static void main(String[] args) {
        for (int seed = 0; seed < RUNS; seed++) {
            new ModelTest(seed).run(seed);
        }
        for (int seed = 0; seed < FORGED_RUNS; seed++) {
            new ModelTest(-1 - seed).runForged("forged seed " + seed + " ");
        }
        Expect.isTrue("most runs have forged blocks", forged > FORGED_RUNS);
        Expect.end("ModelTest");
    }

    private void run(int seed) {
        for (int call = 0; call < CALLS; call++) {
            step("seed " + seed + " call " + call + " ");
            for (int what = 0; what < 8; what++) {
                Expect.equal("seed " + seed + " call " + call + " count " + what, store.count(what), model.count(what));
            }
            Expect.equal("seed " + seed + " call " + call + " badAt", store.badAt(), model.badAt());
        }
        compareAll("seed " + seed + " at its end ");
    }

    /** Blocks altered with their sums right: all that is read of them is what the model reads. */
    private void runForged(String at) {
        for (int part = 0; part < FORGERIES; part++) {
            for (int call = 0; call < 60; call++) {
                step(at + "call " + call + " ");
            }
            forge();
            for (int call = 0; call < 15; call++) {
                long key = key();
                compare(at + "find", () -> store.find(key), () -> model.find(key));
                compare(at + "badAt of find", store::badAt, model::badAt);
                compare(at + "length", () -> store.length(key), () -> model.length(key));
                compare(at + "after", () -> store.after(key), () -> model.after(key));
                compare(at + "badAt of after", store::badAt, model::badAt);
            }
            int level = chance.nextInt(3);
            compare(at + "join", () -> store.join(level), () -> model.join(level));
            compare(at + "badAt of join", store::badAt, model::badAt);
            compare(at + "checked", () -> store.count(5), () -> model.count(5));
        }
        compareAll(at + "at its end ");
    }

    /** Alters a byte that may be a length to another one, or to none, in a block of a table. */
    private void forge() {
        int block = chance.nextInt(model.blocks);
        for (int tried = 0; tried < model.blocks && model.turnOf(block) < 0; tried++) {
            block = (block + 1) % model.blocks;
        }
        int i = chance.nextInt(32);
        for (int tried = 0; tried < 32 && (model.byteAt(block, i) == 0 || model.byteAt(block, i) > 8); tried++) {
            i = (i + 1) % 32;
        }
        if (model.turnOf(block) < 0 || model.check() != RunStore.NONE) {
            return;
        }
        int kind = chance.nextInt(8);
        int length = kind < 6 ? chance.nextInt(9) : kind == 6 ? 255 : 9 + chance.nextInt(246);
        int from = i < 26 && chance.nextBoolean() ? i + 1 : chance.nextInt(27);
        int mask = model.byteAt(block, i) ^ length;
        for (int[] p : Forge.pokes(store, block, model.turnOf(block), i, mask, from)) {
            store.poke(p[0], p[1], p[2]);
            model.poke(p[0], p[1], p[2]);
        }
        Expect.equal("a forged block is right", store.check(), RunStore.NONE);
        forged++;
    }

    private void compareAll(String at) {
        for (int block = 0; block < model.blocks; block++) {
            int b = block;
            compare(at + "sum " + b, () -> store.sum(b), () -> model.sum(b));
            for (int byteOfIt = 0; byteOfIt < 32; byteOfIt++) {
                int i = byteOfIt;
                compare(at + "byte " + b + " " + i, () -> store.byteAt(b, i), () -> model.byteAt(b, i));
            }
        }
        for (int byteOfLog = 0; byteOfLog <= model.count(2); byteOfLog++) {
            int i = byteOfLog;
            compare(at + "logged " + i, () -> store.logged(i), () -> model.logged(i));
        }
        for (int number = 0; number <= model.count(3); number++) {
            int t = number;
            for (int asked = 0; asked < 4; asked++) {
                int what = asked;
                compare(at + "table " + t + " " + what, () -> store.table(t, what), () -> model.table(t, what));
            }
        }
    }

    private void compare(String what, Answer ours, Answer due) {
        Expect.same(what, answerOf(ours), answerOf(due));
    }

    private static String answerOf(Answer answer) {
        try {
            return Long.toString(answer.get());
        } catch (RuntimeException e) {
            return e.getClass().getName();
        }
    }

    private long key() {
        int k = chance.nextInt(keys);
        if (chance.nextInt(60) == 0) {
            return new long[] {Long.MIN_VALUE, Long.MAX_VALUE, 0, -1}[chance.nextInt(4)];
        }
        return style == 0 ? k : style == 1 ? k - keys / 2 : style == 2 ? k * 0x9E3779B97F4A7C15L : (long) k << 56;
    }

    private int near(int most) {
        int pick = chance.nextInt(20);
        return pick == 0 ? -1 : pick == 1 ? most : pick == 2 ? chance.nextInt() : chance.nextInt(Math.max(1, most));
    }

    private void step(String at) {
        int pick = chance.nextInt(100);
        long key = key();
        if (pick < 34) {
            long v = chance.nextLong();
            int n = chance.nextInt(40) == 0 ? chance.nextInt(30) - 10 : chance.nextInt(9);
            compare(at + "put", () -> store.put(key, v, n), () -> model.put(key, v, n));
        } else if (pick < 42) {
            compare(at + "drop", () -> store.drop(key), () -> model.drop(key));
        } else if (pick < 50) {
            compare(at + "flush", store::flush, model::flush);
        } else if (pick < 56) {
            int level = chance.nextInt(15) == 0 ? chance.nextInt(8) - 3 : chance.nextInt(3);
            compare(at + "join " + level, () -> store.join(level), () -> model.join(level));
        } else if (pick < 66) {
            compare(at + "find", () -> store.find(key), () -> model.find(key));
        } else if (pick < 74) {
            compare(at + "length", () -> store.length(key), () -> model.length(key));
        } else if (pick < 80) {
            compare(at + "after", () -> store.after(key), () -> model.after(key));
        } else {
            look(at, pick, key);
        }
    }

    private void look(String at, int pick, long key) {
        int block = near(model.blocks);
        int i = near(32);
        int table = near(model.count(3));
        if (pick < 84) {
            compare(at + "may", () -> store.may(table, key) ? 1 : 0, () -> model.may(table, key) ? 1 : 0);
        } else if (pick < 87) {
            int what = near(4);
            compare(at + "table", () -> store.table(table, what), () -> model.table(table, what));
        } else if (pick < 89) {
            compare(at + "byteAt", () -> store.byteAt(block, i), () -> model.byteAt(block, i));
        } else if (pick < 91) {
            alter(at, block, i);
        } else if (pick < 93) {
            compare(at + "sum", () -> store.sum(block), () -> model.sum(block));
        } else if (pick < 95) {
            int b = near(model.count(2));
            compare(at + "logged", () -> store.logged(b), () -> model.logged(b));
        } else if (pick < 97) {
            breakDown(at);
        } else {
            compare(at + "check", store::check, model::check);
        }
    }

    /** Alters a byte, mostly for some calls only, so that runs are not all faults. */
    private void alter(String at, int block, int i) {
        int mask = chance.nextInt(3) == 0 ? chance.nextInt() : 1 << chance.nextInt(8);
        compare(at + "poke", () -> store.poke(block, i, mask), () -> model.poke(block, i, mask));
        for (int call = chance.nextInt(6); call > 0; call--) {
            long key = key();
            int level = chance.nextInt(3);
            compare(at + "altered find", () -> store.find(key), () -> model.find(key));
            compare(at + "altered badAt", store::badAt, model::badAt);
            compare(at + "altered after", () -> store.after(key), () -> model.after(key));
            compare(at + "altered join", () -> store.join(level), () -> model.join(level));
            compare(at + "altered check", store::check, model::check);
        }
        if (chance.nextInt(8) != 0) {
            compare(at + "poke back", () -> store.poke(block, i, mask), () -> model.poke(block, i, mask));
        }
    }

    private void breakDown(String at) {
        int length = model.count(2);
        int kept = chance.nextInt(3) == 0 ? near(length + 1) : Math.max(0, length - chance.nextInt(3));
        int i = chance.nextInt(2) == 0 ? -1 : near(kept);
        int mask = chance.nextInt(2) == 0 ? chance.nextInt() : 1 << chance.nextInt(9);
        compare(at + "crash", () -> store.crash(kept, i, mask), () -> model.crash(kept, i, mask));
    }
}
