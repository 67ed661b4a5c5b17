/**
 * A store of rows by keys: a small table in memory with a log of all that was done to it, sorted
 * tables of blocks by levels, joined by steps, filters of bits, marks for what was dropped, a sum
 * for each block; a crash cuts the log, what was altered is told.
 */
public final class RunStore {
    /** Nothing there. */
    public static final int NONE = -1;

    private static final int LEAST_BLOCKS = 4;
    private static final int BLOCK_CHOICES = 125;
    private static final int BLOCK_BYTES = 32;
    private static final int MEMORY_KEYS = 24;
    private static final int LOG_BYTES = 1024;
    private static final int MOST_TABLES = 16;
    private static final int LAST_LEVEL = 3;

    private static final int KEY_BYTES = 8;
    private static final int MOST_VALUE_BYTES = 8;
    /** The length byte of a key that was dropped. */
    private static final int DROPPED = 255;
    private static final int LEAST_ENTRY_BYTES = KEY_BYTES + 1;
    private static final int MOST_ENTRY_BYTES = LEAST_ENTRY_BYTES + MOST_VALUE_BYTES;

    private static final int SUM_TURN = 15;
    private static final int SUM_FACTOR = 374761393;
    private static final long FILTER_FACTOR = -7046029254386353131L;

    private final Rows memory;
    private final Log log;
    private final Blocks store;
    private final TableReader reader;
    /** In the order in which they count. */
    private final Table[] tables;
    private int tableCount;
    /** What join() and after() gather rows in; made once, so that no call makes rows anew. */
    private final Rows gathered;
    /** The value that belongs to the length that seek() answered last. */
    private long soughtValue;
    private int passedBy;
    private int bad;

    /** A store without rows, of 4 + blocks modulo 125 blocks. */
    public RunStore(int blocks) {
        int blockCount = LEAST_BLOCKS + Math.floorMod(blocks, BLOCK_CHOICES);
        memory = new Rows(MEMORY_KEYS);
        log = new Log();
        store = new Blocks(blockCount);
        reader = new TableReader(store);
        tables = new Table[MOST_TABLES];
        // No entry is shorter than its key and its length, so the blocks can't hold more of them.
        gathered = new Rows(MEMORY_KEYS + blockCount * BLOCK_BYTES / LEAST_ENTRY_BYTES);
        bad = NONE;
    }

    /** Sets a key's value to the lowest n bytes of v: how many keys memory has. */
    public int put(long key, long v, int n)
            throws IllegalArgumentException, UnsupportedOperationException {
        if (n < 0 || n > MOST_VALUE_BYTES) {
            throw new IllegalArgumentException("a value has 0 to 8 bytes");
        }
        return enter(key, n, lowestBytes(v, n));
    }

    /** Marks a key as dropped: how many keys memory has. */
    public int drop(long key) throws UnsupportedOperationException {
        return enter(key, DROPPED, 0);
    }

    /** Makes memory the newest table of level 0: how many blocks it took. */
    public int flush() throws IllegalStateException, UnsupportedOperationException {
        if (memory.used == 0) {
            throw new IllegalStateException("memory has no keys");
        }
        if (tableCount >= MOST_TABLES) {
            throw new UnsupportedOperationException("there are as many tables as there may be");
        }
        Table newest = store.writeTable(0, memory);
        if (newest == null) {
            throw new UnsupportedOperationException("there are too few free blocks");
        }
        insertTable(0, newest);
        memory.empty();
        log.empty();
        return newest.ids.length;
    }

    /** Makes one table of a level's tables and the next level's: how many entries it has. */
    public int join(int level)
            throws IllegalArgumentException, IllegalStateException, UnsupportedOperationException {
        if (level < 0 || level >= LAST_LEVEL) {
            throw new IllegalArgumentException("no level that has a next one");
        }
        int from = tablesUpTo(level - 1);
        if (from == tablesUpTo(level)) {
            throw new IllegalStateException("the level has no table");
        }
        int end = tablesUpTo(level + 1);
        bad = NONE;
        gathered.empty();
        inspectTables(from, end);
        gatherTables(from, end, false);
        if (end == tableCount) {
            gathered.removeMarks();
        }
        Table joined = null;
        if (gathered.used > 0) {
            joined = store.writeTable(level + 1, gathered);
            if (joined == null) {
                throw new UnsupportedOperationException("there are too few free blocks");
            }
        }
        removeTables(from, end);
        if (joined != null) {
            insertTable(from, joined);
        }
        return gathered.used;
    }

    /** A key's value as a number; 0 when it is not there. */
    public long find(long key) throws IllegalStateException {
        return seek(key) == NONE ? 0 : soughtValue;
    }

    /** How many bytes a key's value has; NONE when it is not there. */
    public int length(long key) throws IllegalStateException {
        return seek(key);
    }

    /** The least key above one that is there; the key itself when there is none. */
    public long after(long key) throws IllegalStateException {
        bad = NONE;
        gathered.empty();
        gathered.addMissingOf(memory);
        gatherTables(0, tableCount, true);
        return gathered.nextKept(key);
    }

    /** Whether a table's filter has a key's bits. */
    public boolean may(int table, long key) throws IndexOutOfBoundsException {
        return tableNumbered(table).passes(key);
    }

    /** Of a table its level (what 0), entries (1), blocks (2), its first block (3). */
    public int table(int table, int what) throws IndexOutOfBoundsException {
        Table asked = tableNumbered(table);
        switch (what) {
            case 0:
                return asked.level;
            case 1:
                return asked.entries;
            case 2:
                return asked.ids.length;
            case 3:
                return asked.idAt(0);
            default:
                throw new IndexOutOfBoundsException("a table has no such number");
        }
    }

    /** Byte i of a block, 0 to 255. */
    public int byteAt(int block, int i) throws IndexOutOfBoundsException {
        refuseNoByte(block, i);
        return store.read(block, i);
    }

    /** Alters byte i of a block, but not the block's sum: what the byte is then. */
    public int poke(int block, int i, int mask) throws IndexOutOfBoundsException {
        refuseNoByte(block, i);
        store.writeByte(block, i, store.read(block, i) ^ mask);
        return store.read(block, i);
    }

    /** A block's sum as it is kept. */
    public int sum(int block) throws IndexOutOfBoundsException {
        if (!store.has(block)) {
            throw new IndexOutOfBoundsException("there is no such block");
        }
        return store.sums[block];
    }

    /** Byte i of the log, 0 to 255. */
    public int logged(int i) throws IndexOutOfBoundsException {
        if (i < 0 || i >= log.used) {
            throw new IndexOutOfBoundsException("the log has no such byte");
        }
        return log.read(i);
    }

    /** Loses memory and does again what the log, cut and altered, tells: how many keys there are. */
    public int crash(int kept, int i, int mask) throws IllegalArgumentException {
        if (kept < 0 || kept > log.used) {
            throw new IllegalArgumentException("the log has not so many bytes");
        }
        if (i < NONE || i >= kept) {
            throw new IllegalArgumentException("no byte of those that are kept");
        }
        log.cut(kept);
        if (i != NONE) {
            log.alter(i, mask);
        }
        log.doAgain(memory);
        return memory.used;
    }

    /** The block at fault in the latest join(), find(), length() or after(); NONE without. */
    public int badAt() {
        return bad;
    }

    /** The lowest block of tables whose sum is not right; NONE without. */
    public int check() {
        return store.lowestWrong();
    }

    /** The numbers that the document lists; NONE for another what. */
    public int count(int what) {
        switch (what) {
            case 0:
                return store.sums.length;
            case 1:
                return memory.used;
            case 2:
                return log.used;
            case 3:
                return tableCount;
            case 4:
                return store.freeCount();
            case 5:
                return store.inspected;
            case 6:
                return passedBy;
            case 7:
                return entriesOfTables();
            default:
                return NONE;
        }
    }

    private int enter(long key, int size, long value) {
        if (!memory.takes(key)) {
            throw new UnsupportedOperationException("memory has as many keys as it may have");
        }
        if (!log.takes(size)) {
            throw new UnsupportedOperationException("the log has no room");
        }
        log.append(key, size, value);
        memory.set(key, size, value);
        return memory.used;
    }

    /** The length of what counts for a key, NONE when it is not there; sets soughtValue. */
    private int seek(long key) {
        bad = NONE;
        int at = memory.placeOf(key);
        if (at >= 0) {
            return sought(memory.sizes[at], memory.values[at]);
        }
        for (int t = 0; t < tableCount; t++) {
            Table table = tables[t];
            if (table == null) {
                continue;
            }
            if (!table.passes(key)) {
                passedBy++;
                continue;
            }
            if (reader.reaches(table, key)) {
                return sought(reader.size, reader.value);
            }
            refuseFault(reader.fault);
        }
        return NONE;
    }

    private int sought(int size, long value) {
        soughtValue = value;
        return size == DROPPED ? NONE : size;
    }

    private void inspectTables(int from, int end) {
        for (int t = from; t < end; t++) {
            Table table = tables[t];
            if (table != null) {
                refuseFault(store.firstWrong(table));
            }
        }
    }

    private void gatherTables(int from, int end, boolean inspecting) {
        for (int t = from; t < end; t++) {
            Table table = tables[t];
            if (table != null) {
                reader.gather(table, inspecting, gathered);
                refuseFault(reader.fault);
            }
        }
    }

    private void refuseFault(int block) {
        if (block != NONE) {
            bad = block;
            throw new IllegalStateException("a block was altered");
        }
    }

    private void refuseNoByte(int block, int i) {
        if (!store.has(block) || i < 0 || i >= BLOCK_BYTES) {
            throw new IndexOutOfBoundsException("there is no such block or byte");
        }
    }

    private Table tableNumbered(int number) {
        if (number < 0 || number >= tableCount || tables[number] == null) {
            throw new IndexOutOfBoundsException("there is no such table");
        }
        return tables[number];
    }

    /** How many tables are of a level or of one before it: these come first in their order. */
    private int tablesUpTo(int level) {
        int found = 0;
        for (int t = 0; t < tableCount; t++) {
            if (tables[t] != null && tables[t].level <= level) {
                found++;
            }
        }
        return found;
    }

    private int entriesOfTables() {
        int entries = 0;
        for (int t = 0; t < tableCount; t++) {
            if (tables[t] != null) {
                entries += tables[t].entries;
            }
        }
        return entries;
    }

    private void insertTable(int at, Table table) {
        if (tableCount >= MOST_TABLES || at < 0 || at > tableCount) {
            return;
        }
        for (int t = tableCount; t > at; t--) {
            tables[t] = tables[t - 1];
        }
        tables[at] = table;
        tableCount++;
    }

    private void removeTables(int from, int end) {
        int kept = from;
        for (int t = from; t < tableCount; t++) {
            if (t >= end) {
                tables[kept] = tables[t];
                kept++;
            } else if (tables[t] != null) {
                store.free(tables[t]);
            }
        }
        for (int t = kept; t < tableCount; t++) {
            tables[t] = null;
        }
        tableCount = kept;
    }

    private static long lowestBytes(long v, int n) {
        // A shift by 64 would be one by 0 in Java.
        return n >= MOST_VALUE_BYTES ? v : v & ((1L << (8 * n)) - 1);
    }

    private static int entryBytes(int size) {
        return size == DROPPED ? LEAST_ENTRY_BYTES : LEAST_ENTRY_BYTES + size;
    }

    /** Byte i of an entry: the key, the length, the value, the highest byte first. */
    private static int entryByte(long key, int size, long value, int i) {
        if (i < KEY_BYTES) {
            return (int) (key >>> (8 * (KEY_BYTES - 1 - i))) & 255;
        }
        if (i == KEY_BYTES) {
            return size;
        }
        return (int) (value >>> (8 * (entryBytes(size) - 1 - i))) & 255;
    }

    private static long filterBits(long key) {
        long h = key * FILTER_FACTOR;
        return (1L << (h >>> 58)) | (1L << ((h >>> 52) & 63));
    }

    /** Keys in their order, each with a length (or DROPPED) and a value. */
    private static final class Rows {
        private final long[] keys;
        private final int[] sizes;
        private final long[] values;
        private int used;

        Rows(int most) {
            keys = new long[most];
            sizes = new int[most];
            values = new long[most];
        }

        void empty() {
            used = 0;
        }

        /** Where a key is; else -1 less the place that it would have. */
        int placeOf(long key) {
            int low = 0;
            int high = used;
            for (int step = 0; step < 32 && low < high; step++) {
                int middle = (low + high) >>> 1;
                if (keys[middle] < key) {
                    low = middle + 1;
                } else {
                    high = middle;
                }
            }
            return low < used && keys[low] == key ? low : -1 - low;
        }

        boolean takes(long key) {
            return used < keys.length || placeOf(key) >= 0;
        }

        /** What came later counts; whether there was room. */
        boolean set(long key, int size, long value) {
            int at = placeOf(key);
            if (at >= 0) {
                sizes[at] = size;
                values[at] = value;
                return true;
            }
            return insert(-1 - at, key, size, value);
        }

        /** What came first counts. */
        void addMissing(long key, int size, long value) {
            int at = placeOf(key);
            if (at < 0) {
                insert(-1 - at, key, size, value);
            }
        }

        void addMissingOf(Rows others) {
            for (int i = 0; i < others.used; i++) {
                addMissing(others.keys[i], others.sizes[i], others.values[i]);
            }
        }

        private boolean insert(int at, long key, int size, long value) {
            if (used >= keys.length || at < 0 || at > used) {
                return false;
            }
            System.arraycopy(keys, at, keys, at + 1, used - at);
            System.arraycopy(sizes, at, sizes, at + 1, used - at);
            System.arraycopy(values, at, values, at + 1, used - at);
            write(at, key, size, value);
            used++;
            return true;
        }

        private void write(int at, long key, int size, long value) {
            keys[at] = key;
            sizes[at] = size;
            values[at] = value;
        }

        void removeMarks() {
            int kept = 0;
            for (int i = 0; i < used; i++) {
                if (sizes[i] != DROPPED) {
                    write(kept, keys[i], sizes[i], values[i]);
                    kept++;
                }
            }
            used = kept;
        }

        /** The least key above one that is not dropped; the key itself when there is none. */
        long nextKept(long key) {
            int at = placeOf(key);
            for (int i = at >= 0 ? at + 1 : -1 - at; i < used; i++) {
                if (sizes[i] != DROPPED) {
                    return keys[i];
                }
            }
            return key;
        }

        int bytes() {
            int bytes = 0;
            for (int i = 0; i < used; i++) {
                bytes += entryBytes(sizes[i]);
            }
            return bytes;
        }

        long filter() {
            long filter = 0;
            for (int i = 0; i < used; i++) {
                filter |= filterBits(keys[i]);
            }
            return filter;
        }
    }

    /** Reads entries out of bytes, wherever these come from. */
    private abstract static class EntryReader {
        long key;
        int size;
        long value;

        /** The next byte, 0 to 255; NONE when there is none that may be read. */
        abstract int nextByte();

        /** Told when the byte that was read last is no length. */
        abstract void refuseLength();

        /** Whether a whole entry was there to be read. */
        boolean readEntry() {
            key = 0;
            size = 0;
            value = 0;
            int end = LEAST_ENTRY_BYTES;
            for (int i = 0; i < MOST_ENTRY_BYTES && i < end; i++) {
                int read = nextByte();
                if (read == NONE) {
                    return false;
                }
                if (i < KEY_BYTES) {
                    key = (key << 8) | read;
                } else if (i > KEY_BYTES) {
                    value = (value << 8) | read;
                } else if (read <= MOST_VALUE_BYTES || read == DROPPED) {
                    size = read;
                    end = entryBytes(read);
                } else {
                    refuseLength();
                    return false;
                }
            }
            return true;
        }
    }

    /** The entries of all that was done to memory, each with a byte of their sum behind it. */
    private static final class Log extends EntryReader {
        private final byte[] bytes = new byte[LOG_BYTES];
        private int used;
        private int at;
        private int entrySum;

        void empty() {
            used = 0;
        }

        int read(int i) {
            return i >= 0 && i < used ? bytes[i] & 255 : NONE;
        }

        boolean takes(int size) {
            return entryBytes(size) + 1 <= bytes.length - used;
        }

        void append(long key, int size, long value) {
            int total = 0;
            int end = entryBytes(size);
            for (int i = 0; i < end; i++) {
                int next = entryByte(key, size, value, i);
                total += next;
                appendByte(next);
            }
            appendByte(total);
        }

        private void appendByte(int next) {
            if (used < bytes.length) {
                bytes[used] = (byte) next;
                used++;
            }
        }

        void cut(int kept) {
            if (kept >= 0 && kept < used) {
                used = kept;
            }
        }

        void alter(int i, int mask) {
            if (i >= 0 && i < used) {
                bytes[i] = (byte) (bytes[i] ^ mask);
            }
        }

        /** Fills memory anew, and cuts the log where an entry can't be done again. */
        void doAgain(Rows memory) {
            memory.empty();
            at = 0;
            int done = 0;
            for (int entry = 0; entry < LOG_BYTES; entry++) {
                if (!readSummed() || !memory.set(key, size, value)) {
                    break;
                }
                done = at;
            }
            used = done;
        }

        private boolean readSummed() {
            entrySum = 0;
            if (!readEntry()) {
                return false;
            }
            int due = entrySum & 255;
            return nextByte() == due;
        }

        int nextByte() {
            int next = read(at);
            if (next != NONE) {
                entrySum += next;
                at++;
            }
            return next;
        }

        void refuseLength() {
            // The log is cut there, and nothing more is told of it.
        }
    }

    /** What is known of a table without reading its blocks. */
    private static final class Table {
        private final int level;
        private final int entries;
        private final long filter;
        private final int[] ids;

        Table(int level, int entries, long filter, int[] ids) {
            this.level = level;
            this.entries = entries;
            this.filter = filter;
            this.ids = ids;
        }

        boolean passes(long key) {
            long bits = filterBits(key);
            return (filter & bits) == bits;
        }

        /** The number of the table's k-th block; NONE when it has not so many. */
        int idAt(int k) {
            return k >= 0 && k < ids.length ? ids[k] : NONE;
        }
    }

    /** All blocks, those of tables and the free ones, with their sums. */
    private static final class Blocks {
        private final byte[] bytes;
        private final int[] sums;
        /** The which block of its table each one is; NONE when it is free. */
        private final int[] turns;
        private int inspected;

        Blocks(int most) {
            bytes = new byte[most * BLOCK_BYTES];
            sums = new int[most];
            turns = new int[most];
            for (int block = 0; block < most; block++) {
                turns[block] = NONE;
            }
        }

        boolean has(int block) {
            return block >= 0 && block < sums.length;
        }

        int read(int block, int i) {
            return has(block) && i >= 0 && i < BLOCK_BYTES
                    ? bytes[block * BLOCK_BYTES + i] & 255 : 0;
        }

        void writeByte(int block, int i, int value) {
            if (has(block) && i >= 0 && i < BLOCK_BYTES) {
                bytes[block * BLOCK_BYTES + i] = (byte) value;
            }
        }

        int freeCount() {
            int free = 0;
            for (int block = 0; block < turns.length; block++) {
                if (turns[block] == NONE) {
                    free++;
                }
            }
            return free;
        }

        /** A new table in the lowest free blocks; null when these are too few, or no rows. */
        Table writeTable(int level, Rows rows) {
            int needed = (rows.bytes() + BLOCK_BYTES - 1) / BLOCK_BYTES;
            if (needed < 1 || needed > freeCount()) {
                return null;
            }
            Table table = new Table(level, rows.used, rows.filter(), take(needed));
            fill(table, rows);
            for (int k = 0; k < table.ids.length; k++) {
                int block = table.ids[k];
                if (has(block)) {
                    sums[block] = sumOf(block);
                }
            }
            return table;
        }

        private int[] take(int needed) {
            int[] ids = new int[needed];
            int taken = 0;
            for (int block = 0; block < turns.length && taken < needed; block++) {
                if (turns[block] == NONE) {
                    turns[block] = taken;
                    ids[taken] = block;
                    taken++;
                }
            }
            return ids;
        }

        private void fill(Table table, Rows rows) {
            int at = 0;
            for (int row = 0; row < rows.used; row++) {
                int size = rows.sizes[row];
                int end = entryBytes(size);
                for (int i = 0; i < end; i++) {
                    int next = entryByte(rows.keys[row], size, rows.values[row], i);
                    writeByte(table.idAt(at / BLOCK_BYTES), at % BLOCK_BYTES, next);
                    at++;
                }
            }
            int room = table.ids.length * BLOCK_BYTES;
            for (int rest = at; rest < room; rest++) {
                writeByte(table.idAt(rest / BLOCK_BYTES), rest % BLOCK_BYTES, 0);
            }
        }

        void free(Table table) {
            for (int k = 0; k < table.ids.length; k++) {
                int block = table.ids[k];
                if (has(block)) {
                    turns[block] = NONE;
                }
            }
        }

        /** Whether a block of a table has the sum that is kept for it; counted. */
        boolean inspect(int block) {
            inspected++;
            return has(block) && sums[block] == sumOf(block);
        }

        /** The first block of a table whose sum is not right, looked at in order; else NONE. */
        int firstWrong(Table table) {
            for (int k = 0; k < table.ids.length; k++) {
                if (!inspect(table.ids[k])) {
                    return table.ids[k];
                }
            }
            return NONE;
        }

        /** The lowest block of all tables whose sum is not right, uncounted; else NONE. */
        int lowestWrong() {
            for (int block = 0; block < turns.length; block++) {
                if (turns[block] != NONE && sums[block] != sumOf(block)) {
                    return block;
                }
            }
            return NONE;
        }

        private int sumOf(int block) {
            int s = turns[block];
            int first = block * BLOCK_BYTES;
            for (int i = first; i < first + BLOCK_BYTES; i++) {
                int mixed = s ^ (bytes[i] & 255);
                s = ((mixed << SUM_TURN) | (mixed >>> (32 - SUM_TURN))) * SUM_FACTOR;
            }
            return s;
        }
    }

    /** Reads a table's entries from its front and tells the block that was at fault. */
    private static final class TableReader extends EntryReader {
        private final Blocks store;
        private Table table;
        private boolean inspecting;
        private int at;
        private int fault;

        TableReader(Blocks store) {
            this.store = store;
            fault = NONE;
        }

        private void start(Table read, boolean inspectingBlocks) {
            table = read;
            inspecting = inspectingBlocks;
            at = 0;
            fault = NONE;
        }

        /** Whether the table has a key: its entry is the one that was read last. */
        boolean reaches(Table read, long wanted) {
            start(read, true);
            for (int entry = 0; entry < read.entries; entry++) {
                if (!readEntry()) {
                    return false;
                }
                if (key >= wanted) {
                    return key == wanted;
                }
            }
            return false;
        }

        /** Adds the entries of keys that are not yet there, until the end or a fault. */
        void gather(Table read, boolean inspectingBlocks, Rows into) {
            start(read, inspectingBlocks);
            for (int entry = 0; entry < read.entries; entry++) {
                if (!readEntry()) {
                    return;
                }
                into.addMissing(key, size, value);
            }
        }

        int nextByte() {
            if (table == null) {
                return NONE;
            }
            int block = table.idAt(at / BLOCK_BYTES);
            if (block == NONE) {
                fault = table.idAt(table.ids.length - 1);
                return NONE;
            }
            int i = at % BLOCK_BYTES;
            // Reading goes from the front, so a block's first byte is the first that is wanted.
            if (i == 0 && inspecting && !store.inspect(block)) {
                fault = block;
                return NONE;
            }
            at++;
            return store.read(block, i);
        }

        void refuseLength() {
            if (table != null) {
                fault = table.idAt((at - 1) / BLOCK_BYTES);
            }
        }
    }
}
