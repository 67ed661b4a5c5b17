import java.util.ArrayList;
import java.util.List;
import java.util.Map;
import java.util.TreeMap;

/** The document once more, written for plainness alone, to compare the class with. */
final class Model {
    /** A value's bytes; null is the mark DROPPED. */
    private record Value(byte[] bytes) {
    }

    private static final class Sheet {
        int level;
        int entries;
        boolean[] filter = new boolean[64];
        List<Integer> ids = new ArrayList<>();
    }

    /** Thrown inside, so that a fault is never mixed up with another exception. */
    private static final class Fault extends Exception {
        private static final long serialVersionUID = 1;
        final int block;

        Fault(int block) {
            this.block = block;
        }
    }

    private interface Visit {
        boolean goOn(long key, Value value);
    }

    final int blocks;
    private TreeMap<Long, Value> memory = new TreeMap<>();
    private List<Integer> log = new ArrayList<>();
    private final int[][] bytes;
    private final int[] sums;
    private final List<Sheet> level0 = new ArrayList<>();
    private final Sheet[] levels = new Sheet[4];
    private int checked;
    private int passed;
    private int bad = -1;

    Model(int asked) {
        int rest = asked % 125;
        blocks = 4 + (rest < 0 ? rest + 125 : rest);
        bytes = new int[blocks][32];
        sums = new int[blocks];
    }

    private static List<Integer> entry(long key, Value value) {
        List<Integer> out = new ArrayList<>();
        for (int shift = 56; shift >= 0; shift -= 8) {
            out.add((int) (key >> shift) & 255);
        }
        if (value.bytes == null) {
            out.add(255);
        } else {
            out.add(value.bytes.length);
            for (byte b : value.bytes) {
                out.add(b & 255);
            }
        }
        return out;
    }

    private int change(long key, Value value) {
        List<Integer> entry = entry(key, value);
        boolean full = memory.size() == 24 && !memory.containsKey(key);
        if (full || log.size() + entry.size() + 1 > 1024) {
            throw new UnsupportedOperationException();
        }
        int sum = 0;
        for (int b : entry) {
            sum += b;
        }
        log.addAll(entry);
        log.add(sum % 256);
        memory.put(key, value);
        return memory.size();
    }

    int put(long key, long v, int n) {
        if (n < 0 || n > 8) {
            throw new IllegalArgumentException();
        }
        byte[] value = new byte[n];
        for (int i = n - 1; i >= 0; i--) {
            value[i] = (byte) v;
            v >>= 8;
        }
        return change(key, new Value(value));
    }

    int drop(long key) {
        return change(key, new Value(null));
    }

    List<Sheet> sheets() {
        List<Sheet> all = new ArrayList<>(level0);
        for (int level = 1; level < 4; level++) {
            if (levels[level] != null) {
                all.add(levels[level]);
            }
        }
        return all;
    }

    private List<Integer> free() {
        List<Integer> free = new ArrayList<>();
        for (int b = 0; b < blocks; b++) {
            free.add(b);
        }
        for (Sheet s : sheets()) {
            free.removeAll(s.ids);
        }
        return free;
    }

    private static int[] bitsOf(long key) {
        long h = key * -7046029254386353131L;
        return new int[] {(int) (h >>> 58), (int) (h << 6 >>> 58)};
    }

    private Sheet write(int level, TreeMap<Long, Value> rows) {
        List<Integer> out = new ArrayList<>();
        Sheet s = new Sheet();
        s.level = level;
        for (Map.Entry<Long, Value> row : rows.entrySet()) {
            out.addAll(entry(row.getKey(), row.getValue()));
            for (int bit : bitsOf(row.getKey())) {
                s.filter[bit] = true;
            }
            s.entries++;
        }
        while (out.size() % 32 != 0) {
            out.add(0);
        }
        List<Integer> free = free();
        if (free.size() < out.size() / 32) {
            throw new UnsupportedOperationException();
        }
        for (int k = 0; k < out.size() / 32; k++) {
            int b = free.get(k);
            s.ids.add(b);
            for (int i = 0; i < 32; i++) {
                bytes[b][i] = out.get(k * 32 + i);
            }
            sums[b] = sumOf(b, k);
        }
        return s;
    }

    private int sumOf(int block, int k) {
        int s = k;
        for (int b : bytes[block]) {
            s = Integer.rotateLeft(s ^ b, 15) * 374761393;
        }
        return s;
    }

    /** The which block of its table a block is; -1 when it is free. */
    int turnOf(int block) {
        int turn = -1;
        for (Sheet s : sheets()) {
            turn = Math.max(turn, s.ids.indexOf(block));
        }
        return turn;
    }

    int flush() {
        if (memory.isEmpty()) {
            throw new IllegalStateException();
        }
        if (sheets().size() == 16) {
            throw new UnsupportedOperationException();
        }
        Sheet s = write(0, memory);
        level0.add(0, s);
        memory = new TreeMap<>();
        log = new ArrayList<>();
        return s.ids.size();
    }

    private void inspect(Sheet s, int k) throws Fault {
        checked++;
        int block = s.ids.get(k);
        if (sums[block] != sumOf(block, k)) {
            throw new Fault(block);
        }
    }

    private int byteOf(Sheet s, int at, boolean inspecting) throws Fault {
        if (at / 32 == s.ids.size()) {
            throw new Fault(s.ids.get(s.ids.size() - 1));
        }
        if (at % 32 == 0 && inspecting) {
            inspect(s, at / 32);
        }
        return bytes[s.ids.get(at / 32)][at % 32];
    }

    private void read(Sheet s, boolean inspecting, Visit visit) throws Fault {
        int at = 0;
        for (int n = 0; n < s.entries; n++) {
            long key = 0;
            for (int i = 0; i < 8; i++) {
                key = key * 256 + byteOf(s, at++, inspecting);
            }
            int size = byteOf(s, at++, inspecting);
            byte[] value = null;
            if (size != 255) {
                if (size > 8) {
                    throw new Fault(s.ids.get((at - 1) / 32));
                }
                value = new byte[size];
                for (int i = 0; i < size; i++) {
                    value[i] = (byte) byteOf(s, at++, inspecting);
                }
            }
            if (!visit.goOn(key, new Value(value))) {
                return;
            }
        }
    }

    private RuntimeException told(Fault fault) {
        bad = fault.block;
        return new IllegalStateException();
    }

    int join(int level) {
        if (level < 0 || level > 2) {
            throw new IllegalArgumentException();
        }
        List<Sheet> old = new ArrayList<>();
        if (level == 0) {
            old.addAll(level0);
        } else if (levels[level] != null) {
            old.add(levels[level]);
        }
        if (old.isEmpty()) {
            throw new IllegalStateException();
        }
        if (levels[level + 1] != null) {
            old.add(levels[level + 1]);
        }
        bad = -1;
        TreeMap<Long, Value> rows = new TreeMap<>();
        try {
            for (Sheet s : old) {
                for (int k = 0; k < s.ids.size(); k++) {
                    inspect(s, k);
                }
            }
            for (Sheet s : old) {
                read(s, false, (key, value) -> {
                    rows.putIfAbsent(key, value);
                    return true;
                });
            }
        } catch (Fault fault) {
            throw told(fault);
        }
        boolean behind = false;
        for (int l = level + 2; l < 4; l++) {
            behind |= levels[l] != null;
        }
        if (!behind) {
            rows.values().removeIf(value -> value.bytes == null);
        }
        Sheet joined = rows.isEmpty() ? null : write(level + 1, rows);
        if (level == 0) {
            level0.clear();
        } else {
            levels[level] = null;
        }
        levels[level + 1] = joined;
        return rows.size();
    }

    private boolean has(Sheet s, long key) {
        int[] bits = bitsOf(key);
        return s.filter[bits[0]] && s.filter[bits[1]];
    }

    private Value seek(long key) {
        bad = -1;
        if (memory.containsKey(key)) {
            return memory.get(key);
        }
        Value[] found = new Value[1];
        for (Sheet s : sheets()) {
            if (!has(s, key)) {
                passed++;
                continue;
            }
            try {
                read(s, true, (read, value) -> {
                    if (read == key) {
                        found[0] = value;
                    }
                    return read < key;
                });
            } catch (Fault fault) {
                throw told(fault);
            }
            if (found[0] != null) {
                return found[0];
            }
        }
        return new Value(null);
    }

    long find(long key) {
        byte[] value = seek(key).bytes;
        long number = 0;
        for (int i = 0; value != null && i < value.length; i++) {
            number = number * 256 + (value[i] & 255);
        }
        return number;
    }

    int length(long key) {
        byte[] value = seek(key).bytes;
        return value == null ? -1 : value.length;
    }

    long after(long key) {
        bad = -1;
        TreeMap<Long, Value> rows = new TreeMap<>(memory);
        try {
            for (Sheet s : sheets()) {
                read(s, true, (read, value) -> {
                    rows.putIfAbsent(read, value);
                    return true;
                });
            }
        } catch (Fault fault) {
            throw told(fault);
        }
        for (Map.Entry<Long, Value> row : rows.tailMap(key, false).entrySet()) {
            if (row.getValue().bytes != null) {
                return row.getKey();
            }
        }
        return key;
    }

    private Sheet sheet(int table) {
        if (table < 0 || table >= sheets().size()) {
            throw new IndexOutOfBoundsException();
        }
        return sheets().get(table);
    }

    boolean may(int table, long key) {
        return has(sheet(table), key);
    }

    int table(int table, int what) {
        Sheet s = sheet(table);
        return switch (what) {
            case 0 -> s.level;
            case 1 -> s.entries;
            case 2 -> s.ids.size();
            case 3 -> s.ids.get(0);
            default -> throw new IndexOutOfBoundsException();
        };
    }

    int byteAt(int block, int i) {
        if (block < 0 || block >= blocks || i < 0 || i > 31) {
            throw new IndexOutOfBoundsException();
        }
        return bytes[block][i];
    }

    int poke(int block, int i, int mask) {
        int was = byteAt(block, i);
        bytes[block][i] = was ^ (mask & 255);
        return bytes[block][i];
    }

    int sum(int block) {
        byteAt(block, 0);
        return sums[block];
    }

    int logged(int i) {
        if (i < 0 || i >= log.size()) {
            throw new IndexOutOfBoundsException();
        }
        return log.get(i);
    }

    int crash(int kept, int i, int mask) {
        if (kept < 0 || kept > log.size() || i < -1 || i >= kept) {
            throw new IllegalArgumentException();
        }
        List<Integer> left = new ArrayList<>(log.subList(0, kept));
        if (i >= 0) {
            left.set(i, left.get(i) ^ (mask & 255));
        }
        memory.clear();
        log.clear();
        while (left.size() >= 10) {
            int size = left.get(8);
            int end = size == 255 ? 9 : 9 + size;
            if (end > 17 || left.size() < end + 1) {
                break;
            }
            int sum = 0;
            for (int b : left.subList(0, end)) {
                sum += b;
            }
            if (sum % 256 != left.get(end)) {
                break;
            }
            long key = 0;
            for (int j = 0; j < 8; j++) {
                key = key * 256 + left.get(j);
            }
            byte[] value = size == 255 ? null : new byte[size];
            for (int j = 9; j < end; j++) {
                value[j - 9] = (byte) (int) left.get(j);
            }
            if (memory.size() == 24 && !memory.containsKey(key)) {
                break;
            }
            memory.put(key, new Value(value));
            log.addAll(left.subList(0, end + 1));
            left.subList(0, end + 1).clear();
        }
        return memory.size();
    }

    int badAt() {
        return bad;
    }

    int check() {
        int lowest = -1;
        for (Sheet s : sheets()) {
            for (int k = 0; k < s.ids.size(); k++) {
                int block = s.ids.get(k);
                if (sums[block] != sumOf(block, k) && (lowest < 0 || block < lowest)) {
                    lowest = block;
                }
            }
        }
        return lowest;
    }

    int count(int what) {
        int entries = 0;
        for (Sheet s : sheets()) {
            entries += s.entries;
        }
        int[] counts = {blocks, memory.size(), log.size(), sheets().size(), free().size(), checked, passed, entries};
        return what < 0 || what > 7 ? -1 : counts[what];
    }
}
