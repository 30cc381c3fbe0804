import java.util.ArrayList;
import java.util.Collections;
import java.util.HashMap;
import java.util.IdentityHashMap;
import java.util.List;
import java.util.Map;
import java.util.Set;
import java.util.TreeMap;
import java.util.TreeSet;

/**
 * The document's terms written out with the Java library, as a second opinion: nothing is kept that
 * can be found by looking, so each answer is told anew from pages, blocks and kept versions.
 */
final class Model {
    static final int REFUSED = -1;
    static final int FULL = -2;
    static final int NONE = -3;
    static final long NOTHING = 1L << 40;
    static final long GONE = 1L << 41;

    /** One page: a leaf has ints, a root leads to leaves, a meta to roots. */
    static final class Sheet {
        Pack pack;
        int block;
        int map = -1;
        int leaf = -1;
        final TreeMap<Integer, Integer> ints = new TreeMap<>();
        final List<Sheet> leads = new ArrayList<>();
    }

    /** One chunk. */
    static final class Pack {
        int id;
        int first;
        int version;
        final List<Sheet> sheets = new ArrayList<>();

        int length() {
            return (sheets.size() + 1) / 2;
        }

        Sheet meta() {
            return sheets.get(sheets.size() - 1);
        }
    }

    private TreeMap<Integer, Integer> now = new TreeMap<>();
    private final TreeSet<Integer> touchedLeaves = new TreeSet<>();
    private final TreeSet<Integer> touchedMaps = new TreeSet<>();
    private final TreeMap<Integer, Sheet> metas = new TreeMap<>();
    private final Map<Integer, Integer> pins = new HashMap<>();
    private final TreeMap<Integer, Pack> packs = new TreeMap<>();
    private final Pack[] blocks = new Pack[32];
    private Pack[] safe = new Pack[32];
    private final List<Integer> pending = new ArrayList<>();
    private int latest = 0;
    private int held = 1;
    private int nextId = 1;

    /** How often a crash left a chunk that is used without being whole. */
    int brokenButUsed = 0;

    Model() {
        metas.put(0, null);
    }

    private static boolean inRange(int m, int k) {
        return 0 <= m && m <= 3 && 0 <= k && k <= 31;
    }

    int put(int m, int k, int v) {
        if (!inRange(m, k)) {
            return REFUSED;
        }
        touchedLeaves.add(m * 4 + k / 8);
        return now.put(m * 32 + k, v) == null ? 0 : 1;
    }

    int remove(int m, int k) {
        if (!inRange(m, k)) {
            return REFUSED;
        }
        if (now.remove(m * 32 + k) == null) {
            return 0;
        }
        touchedLeaves.add(m * 4 + k / 8);
        return 1;
    }

    long get(int m, int k) {
        return inRange(m, k) ? read(now, m, k) : GONE;
    }

    private static long read(TreeMap<Integer, Integer> ints, int m, int k) {
        Integer v = ints.get(m * 32 + k);
        return v == null ? NOTHING : v;
    }

    private static TreeMap<Integer, Integer> contents(Sheet meta) {
        TreeMap<Integer, Integer> all = new TreeMap<>();
        for (Sheet s : reached(meta)) {
            all.putAll(s.ints);
        }
        return all;
    }

    /** The meta and all to which it leads; none for the version of the beginning. */
    private static List<Sheet> reached(Sheet meta) {
        List<Sheet> all = new ArrayList<>();
        if (meta != null) {
            all.add(meta);
            for (Sheet root : meta.leads) {
                all.add(root);
                all.addAll(root.leads);
            }
        }
        return all;
    }

    long at(int version, int m, int k) {
        return metas.containsKey(version) && inRange(m, k) ? read(contents(metas.get(version)), m, k) : GONE;
    }

    int next(int m, int k) {
        if (m < 0 || m > 3) {
            return REFUSED;
        }
        for (int key : now.keySet()) {
            if (key / 32 == m && key % 32 >= k) {
                return key % 32;
            }
        }
        return NONE;
    }

    private boolean isFree(int b) {
        for (Pack p : packs.values()) {
            if (p.first <= b && b < p.first + p.length()) {
                return false;
            }
        }
        return true;
    }

    private int row(int length) {
        for (int first = 0; first + length <= 32; first++) {
            boolean fits = true;
            for (int b = first; b < first + length; b++) {
                fits &= isFree(b);
            }
            if (fits) {
                return first;
            }
        }
        return FULL;
    }

    private void keep() {
        int others = 0;
        for (int version : new ArrayList<>(metas.descendingKeySet())) {
            if (version != latest && pins.getOrDefault(version, 0) == 0 && ++others > held) {
                metas.remove(version);
            }
        }
    }

    private static Sheet find(Sheet meta, int map, int leaf) {
        for (Sheet s : reached(meta)) {
            if (s.map == map && s.leaf == leaf) {
                return s;
            }
        }
        return null;
    }

    private Pack drawUp() {
        Pack pack = new Pack();
        Sheet before = metas.get(latest);
        Sheet meta = new Sheet();
        for (int m = 0; m < 4; m++) {
            boolean changed = touchedMaps.contains(m) || !touchedLeaves.subSet(4 * m, 4 * m + 4).isEmpty();
            if (!changed) {
                Sheet root = find(before, m, -1);
                if (root != null) {
                    meta.leads.add(root);
                }
                continue;
            }
            Sheet root = new Sheet();
            root.map = m;
            for (int j = 0; j < 4; j++) {
                Sheet leaf = find(before, m, j);
                if (touchedLeaves.contains(4 * m + j)) {
                    leaf = new Sheet();
                    leaf.map = m;
                    leaf.leaf = j;
                    leaf.ints.putAll(now.subMap(32 * m + 8 * j, 32 * m + 8 * j + 8));
                    leaf = leaf.ints.isEmpty() ? null : leaf;
                    if (leaf != null) {
                        pack.sheets.add(leaf);
                    }
                }
                if (leaf != null) {
                    root.leads.add(leaf);
                }
            }
            if (!root.leads.isEmpty()) {
                pack.sheets.add(root);
                meta.leads.add(root);
            }
        }
        pack.sheets.add(meta);
        return pack;
    }

    /** False if there is no room; else the chunk is written and stands for the version. */
    private boolean write(Pack pack, int version) {
        int first = row(pack.length());
        if (first < 0) {
            return false;
        }
        pack.id = nextId++;
        pack.first = first;
        pack.version = version;
        for (int i = 0; i < pack.sheets.size(); i++) {
            pack.sheets.get(i).pack = pack;
            pack.sheets.get(i).block = first + i / 2;
        }
        for (int b = first; b < first + pack.length(); b++) {
            blocks[b] = pack;
            pending.add(b);
        }
        packs.put(pack.id, pack);
        latest = version;
        metas.put(version, pack.meta());
        touchedLeaves.clear();
        touchedMaps.clear();
        return true;
    }

    int commit() {
        if (touchedLeaves.isEmpty() && touchedMaps.isEmpty()) {
            return latest;
        }
        if (!write(drawUp(), latest + 1)) {
            return FULL;
        }
        keep();
        return latest;
    }

    int rollback(int version) {
        if (!metas.containsKey(version)) {
            return NONE;
        }
        Pack pack = new Pack();
        Sheet meta = new Sheet();
        if (metas.get(version) != null) {
            meta.leads.addAll(metas.get(version).leads);
        }
        pack.sheets.add(meta);
        if (!write(pack, version)) {
            return FULL;
        }
        now = contents(meta);
        metas.tailMap(version, false).clear();
        pins.keySet().removeIf(v -> v > version);
        keep();
        return pack.id;
    }

    int pin(int version) {
        if (!metas.containsKey(version)) {
            return NONE;
        }
        if (pins.getOrDefault(version, 0) == 9) {
            return FULL;
        }
        return pins.merge(version, 1, Integer::sum);
    }

    int unpin(int version) {
        int often = pins.getOrDefault(version, 0);
        if (often == 0) {
            return NONE;
        }
        pins.put(version, often - 1);
        keep();
        return often - 1;
    }

    int hold(int n) {
        if (n < 0 || n > 4) {
            return REFUSED;
        }
        int was = held;
        held = n;
        keep();
        return was;
    }

    private Set<Sheet> live() {
        Set<Sheet> all = Collections.newSetFromMap(new IdentityHashMap<>());
        for (Sheet meta : metas.values()) {
            all.addAll(reached(meta));
        }
        return all;
    }

    private int liveIn(Pack pack) {
        Set<Sheet> live = live();
        live.retainAll(pack.sheets);
        return live.size();
    }

    int sync() {
        int were = pending.size();
        pending.clear();
        safe = blocks.clone();
        packs.values().removeIf(p -> liveIn(p) == 0);
        return were;
    }

    int compact(int n) {
        if (n < 1 || n > 64) {
            return REFUSED;
        }
        Pack chosen = null;
        int least = 0;
        for (Pack p : packs.values()) {
            int share = 64 * liveIn(p) / p.sheets.size();
            if (liveIn(p) > 0 && p.meta() != metas.get(latest) && (chosen == null || share < least)) {
                chosen = p;
                least = share;
            }
        }
        if (chosen == null || least >= n) {
            return NONE;
        }
        int touched = 0;
        for (Sheet s : reached(metas.get(latest))) {
            if (s.pack == chosen) {
                touched++;
                if (s.leaf >= 0) {
                    touchedLeaves.add(4 * s.map + s.leaf);
                } else {
                    touchedMaps.add(s.map);
                }
            }
        }
        return touched;
    }

    private boolean isWhole(Pack pack) {
        for (int b = pack.first; b < pack.first + pack.length(); b++) {
            if (blocks[b] != pack) {
                return false;
            }
        }
        return true;
    }

    private boolean isReadable(Pack pack) {
        boolean all = isWhole(pack);
        for (Sheet s : reached(pack.meta())) {
            all &= blocks[s.block] == s.pack;
        }
        return all;
    }

    int crash(int k, int mask) {
        if (k < 0 || k > pending.size() || mask < 0 || mask > 65535) {
            return REFUSED;
        }
        for (int i = k; i < pending.size(); i++) {
            if (i - k >= 16 || (mask & 1 << (i - k)) == 0) {
                blocks[pending.get(i)] = safe[pending.get(i)];
            }
        }
        pending.clear();
        safe = blocks.clone();
        open();
        return latest;
    }

    private void open() {
        Pack newest = null;
        nextId = 1;
        for (Pack p : blocks) {
            if (p != null) {
                nextId = Math.max(nextId, p.id + 1);
                if (isReadable(p) && (newest == null || p.id > newest.id)) {
                    newest = p;
                }
            }
        }
        latest = newest == null ? 0 : newest.version;
        metas.clear();
        metas.put(latest, newest == null ? null : newest.meta());
        pins.clear();
        touchedLeaves.clear();
        touchedMaps.clear();
        now = contents(metas.get(latest));
        packs.clear();
        for (Sheet s : live()) {
            packs.put(s.pack.id, s.pack);
        }
        for (Pack p : packs.values()) {
            brokenButUsed += isWhole(p) ? 0 : 1;
        }
    }

    int chunk(int k, int what) {
        if (k < 0 || k >= packs.size() || what < 0 || what > 5) {
            return REFUSED;
        }
        Pack p = new ArrayList<>(packs.values()).get(k);
        int[] answers = {p.id, p.first, p.length(), p.sheets.size(), liveIn(p), p.version};
        return answers[what];
    }

    int block(int b, int what) {
        if (b < 0 || b > 31 || what < 0 || what > 3) {
            return REFUSED;
        }
        Pack p = blocks[b];
        int[] answers = {isFree(b) ? 1 : 0, p == null ? 0 : p.id, p == null ? 0 : b - p.first,
            pending.contains(b) ? 1 : 0};
        return answers[what];
    }

    int kept(int k) {
        return k < 0 || k >= metas.size() ? REFUSED : new ArrayList<>(metas.keySet()).get(k);
    }

    int count(int what) {
        int free = 0;
        for (int b = 0; b < 32; b++) {
            free += isFree(b) ? 1 : 0;
        }
        int[] answers = {latest, metas.size(), nextId, packs.size(), free, pending.size(), touchedLeaves.size(),
            touchedMaps.size(), live().size(), now.size()};
        return what < 0 || what > 9 ? REFUSED : answers[what];
    }
}
