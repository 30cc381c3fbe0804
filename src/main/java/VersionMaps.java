import java.util.ArrayList;

/** Maps with versions in one file of blocks, as DOC.md promises them. */
public final class VersionMaps {
    public static final int REFUSED = -1, FULL = -2, NONE = -3;
    public static final long NOTHING = 1L << 40, GONE = 1L << 41;

    private static final int MAPS = 4;
    private static final int KEYS = 32;
    private static final int LEAVES = 4;
    private static final int LEAF_KEYS = 8;
    private static final int LEAF_MASK = 255;
    private static final int MAP_MASK = 15;
    private static final int BLOCKS = 32;
    private static final int PAGES_PER_BLOCK = 2;
    private static final int MOST_PINS = 9;
    private static final int MOST_HELD = 4;
    private static final int FULL_SHARE = 64;
    private static final int MASK_BITS = 16;
    private static final int MOST_MASK = 65535;

    private final Present present = new Present();
    private final BlockFile file = new BlockFile();
    /** The chunks that are there or dead, by ids. */
    private final ArrayList<Chunk> chunks = new ArrayList<Chunk>();
    /** The kept versions, by numbers; the latest one is always the last. */
    private final ArrayList<Version> versions = new ArrayList<Version>();
    private Version latest = new Version(0, null);
    private int holdLimit = 1;
    private int nextId = 1;
    /** A page is live if it bears this number: so no marks need wiping. */
    private int liveRound = 0;

    public VersionMaps() {
        versions.add(latest);
    }

    public int put(int m, int k, int v) {
        if (!isKey(m, k)) {
            return REFUSED;
        }
        boolean had = present.has(m, k);
        present.assign(m, k, v);
        return had ? 1 : 0;
    }

    public int remove(int m, int k) {
        if (!isKey(m, k)) {
            return REFUSED;
        }
        if (!present.has(m, k)) {
            return 0;
        }
        present.erase(m, k);
        return 1;
    }

    public long get(int m, int k) {
        if (!isKey(m, k)) {
            return GONE;
        }
        return present.has(m, k) ? present.valueOf(m, k) : NOTHING;
    }

    public long at(int version, int m, int k) {
        Version wanted = findVersion(version);
        if (wanted == null || !isKey(m, k)) {
            return GONE;
        }
        return wanted.meta == null ? NOTHING : wanted.meta.valueOf(m, k);
    }

    public int next(int m, int k) {
        if (!isMap(m)) {
            return REFUSED;
        }
        for (int key = Math.max(k, 0); key < KEYS; key++) {
            if (present.has(m, key)) {
                return key;
            }
        }
        return NONE;
    }

    public int commit() {
        if (!present.isTouched()) {
            return latest.number;
        }
        int pageCount = present.pagesToWrite();
        int first = file.findFreeRow(blocksFor(pageCount));
        if (first < 0) {
            return FULL;
        }
        Chunk written = new Chunk(nextId, first, pageCount);
        present.writeTouched(written, latest.number + 1, latest.meta);
        present.forgetTouched();
        latest = new Version(latest.number + 1, written.meta);
        versions.add(latest);
        writeToFile(written);
        dropUnkept();
        return latest.number;
    }

    public int rollback(int version) {
        Version wanted = findVersion(version);
        if (wanted == null) {
            return NONE;
        }
        int first = file.findFreeRow(1);
        if (first < 0) {
            return FULL;
        }
        Chunk written = new Chunk(nextId, first, 1);
        written.close(copyOf(wanted));
        wanted.meta = written.meta;
        latest = wanted;
        present.load(latest.meta);
        writeToFile(written);
        dropAbove(wanted.number);
        dropUnkept();
        return written.id;
    }

    public int pin(int version) {
        Version wanted = findVersion(version);
        if (wanted == null) {
            return NONE;
        }
        if (wanted.pins >= MOST_PINS) {
            return FULL;
        }
        wanted.pins++;
        return wanted.pins;
    }

    public int unpin(int version) {
        Version wanted = findVersion(version);
        if (wanted == null || wanted.pins == 0) {
            return NONE;
        }
        wanted.pins--;
        dropUnkept();
        return wanted.pins;
    }

    public int hold(int n) {
        if (n < 0 || n > MOST_HELD) {
            return REFUSED;
        }
        int before = holdLimit;
        holdLimit = n;
        dropUnkept();
        return before;
    }

    public int sync() {
        int settled = file.pendingCount;
        file.settlePending();
        freeDeadChunks();
        return settled;
    }

    public int compact(int n) {
        if (n < 1 || n > FULL_SHARE) {
            return REFUSED;
        }
        Chunk sparsest = findSparsest(n);
        if (sparsest == null || latest.meta == null) {
            return NONE;
        }
        return present.touchPagesIn(sparsest, latest.meta);
    }

    public int crash(int k, int mask) {
        if (k < 0 || k > file.pendingCount || mask < 0 || mask > MOST_MASK) {
            return REFUSED;
        }
        file.losePending(k, mask);
        reopen();
        return latest.number;
    }

    public int chunk(int k, int what) {
        if (k < 0 || k >= chunks.size()) {
            return REFUSED;
        }
        Chunk asked = chunks.get(k);
        switch (what) {
            case 0:
                return asked.id;
            case 1:
                return asked.first;
            case 2:
                return asked.blockCount();
            case 3:
                return asked.pages.length;
            case 4:
                return asked.livePages(liveRound);
            case 5:
                return asked.meta.version;
            default:
                return REFUSED;
        }
    }

    public int block(int b, int what) {
        if (b < 0 || b >= BLOCKS) {
            return REFUSED;
        }
        Chunk holder = file.contents[b];
        switch (what) {
            case 0:
                return file.isFree[b] ? 1 : 0;
            case 1:
                return holder == null ? 0 : holder.id;
            case 2:
                return holder == null ? 0 : b - holder.first;
            case 3:
                return file.isPending[b] ? 1 : 0;
            default:
                return REFUSED;
        }
    }

    public int kept(int k) {
        return k < 0 || k >= versions.size() ? REFUSED : versions.get(k).number;
    }

    public int count(int what) {
        switch (what) {
            case 0:
                return latest.number;
            case 1:
                return versions.size();
            case 2:
                return nextId;
            case 3:
                return chunks.size();
            case 4:
                return file.freeCount();
            case 5:
                return file.pendingCount;
            case 6:
                return Integer.bitCount(present.touchedLeaves);
            case 7:
                return Integer.bitCount(present.touchedMaps);
            case 8:
                return allLivePages();
            case 9:
                return present.size();
            default:
                return REFUSED;
        }
    }

    private static boolean isMap(int m) {
        return m >= 0 && m < MAPS;
    }

    private static boolean isKey(int m, int k) {
        return isMap(m) && k >= 0 && k < KEYS;
    }

    private static int blocksFor(int pageCount) {
        return (pageCount + PAGES_PER_BLOCK - 1) / PAGES_PER_BLOCK;
    }

    private Version findVersion(int number) {
        for (int i = 0; i < versions.size(); i++) {
            if (versions.get(i).number == number) {
                return versions.get(i);
            }
        }
        return null;
    }

    private static Meta copyOf(Version wanted) {
        Meta copy = new Meta(wanted.number);
        for (int m = 0; m < MAPS && wanted.meta != null; m++) {
            copy.roots[m] = wanted.meta.roots[m];
        }
        return copy;
    }

    private void writeToFile(Chunk written) {
        nextId++;
        chunks.add(written);
        file.write(written);
    }

    private void dropAbove(int number) {
        for (int i = versions.size() - 1; i >= 0; i--) {
            if (versions.get(i).number > number) {
                versions.remove(i);
            }
        }
    }

    private void dropUnkept() {
        int held = 0;
        for (int i = versions.size() - 1; i >= 0; i--) {
            Version old = versions.get(i);
            if (old == latest || old.pins > 0) {
                continue;
            }
            if (held < holdLimit) {
                held++;
            } else {
                versions.remove(i);
            }
        }
        markLivePages();
    }

    private void markLivePages() {
        liveRound++;
        for (int i = 0; i < versions.size(); i++) {
            Meta meta = versions.get(i).meta;
            if (meta != null) {
                meta.markLive(liveRound);
            }
        }
    }

    private int allLivePages() {
        int live = 0;
        for (int i = 0; i < chunks.size(); i++) {
            live += chunks.get(i).livePages(liveRound);
        }
        return live;
    }

    private void freeDeadChunks() {
        for (int i = chunks.size() - 1; i >= 0; i--) {
            Chunk candidate = chunks.get(i);
            if (candidate.livePages(liveRound) == 0) {
                file.release(candidate);
                chunks.remove(i);
            }
        }
    }

    private Chunk findSparsest(int below) {
        Chunk sparsest = null;
        int least = below;
        for (int i = 0; i < chunks.size(); i++) {
            Chunk candidate = chunks.get(i);
            int live = candidate.livePages(liveRound);
            if (live == 0 || candidate.meta == latest.meta) {
                continue;
            }
            int share = FULL_SHARE * live / candidate.pages.length;
            if (share < least) {
                least = share;
                sparsest = candidate;
            }
        }
        return sparsest;
    }

    /**
     * Only chunks of the list can have live pages then: what was latest at the last sync or crash
     * is still whole, and it and all written since lead to no chunk that was gone by that time.
     */
    private void reopen() {
        Chunk newest = file.newestReadable();
        Meta meta = newest == null ? null : newest.meta;
        latest = new Version(meta == null ? 0 : meta.version, meta);
        versions.clear();
        versions.add(latest);
        present.load(meta);
        markLivePages();
        freeDeadChunks();
        nextId = file.greatestId() + 1;
    }

    /** A version that is kept; its meta is null while it is the one of the beginning. */
    private static final class Version {
        final int number;
        Meta meta;
        int pins = 0;

        Version(int number, Meta meta) {
            this.number = number;
            this.meta = meta;
        }
    }

    /** A page knows where it lies, since a crash asks whether its block still holds it. */
    private abstract static class Page {
        Chunk home = null;
        int place = 0;
        int markedRound = 0;
    }

    private static final class Leaf extends Page {
        final int[] values = new int[LEAF_KEYS];
        /** Bit i stands for the i-th key of the leaf. */
        int keys = 0;
    }

    /** Leads to the leaves that have a key; the others are null. */
    private static final class Root extends Page {
        final Leaf[] leaves = new Leaf[LEAVES];

        void markLive(int round) {
            markedRound = round;
            for (int j = 0; j < LEAVES; j++) {
                if (leaves[j] != null) {
                    leaves[j].markedRound = round;
                }
            }
        }
    }

    /** Leads to the roots of the maps that have a key; the others are null. */
    private static final class Meta extends Page {
        final int version;
        final Root[] roots = new Root[MAPS];

        Meta(int version) {
            this.version = version;
        }

        Leaf leafOf(int m, int j) {
            return roots[m] == null ? null : roots[m].leaves[j];
        }

        long valueOf(int m, int k) {
            Leaf leaf = leafOf(m, k / LEAF_KEYS);
            int i = k % LEAF_KEYS;
            if (leaf == null || (leaf.keys >> i & 1) == 0) {
                return NOTHING;
            }
            return leaf.values[i];
        }

        void markLive(int round) {
            markedRound = round;
            for (int m = 0; m < MAPS; m++) {
                if (roots[m] != null) {
                    roots[m].markLive(round);
                }
            }
        }
    }

    /** Pages that are written together; the meta is the last of them. */
    private static final class Chunk {
        final int id;
        final int first;
        final Page[] pages;
        int filled = 0;
        Meta meta = null;

        Chunk(int id, int first, int pageCount) {
            this.id = id;
            this.first = first;
            this.pages = new Page[pageCount];
        }

        void append(Page page) {
            page.home = this;
            page.place = filled;
            pages[filled] = page;
            filled++;
        }

        void close(Meta last) {
            append(last);
            meta = last;
        }

        int blockCount() {
            return blocksFor(pages.length);
        }

        int livePages(int round) {
            int live = 0;
            for (int i = 0; i < pages.length; i++) {
                if (pages[i].markedRound == round) {
                    live++;
                }
            }
            return live;
        }
    }

    /** What all maps hold now, and what of it the next commit must write. */
    private static final class Present {
        final int[] values = new int[MAPS * KEYS];
        /** For each map, bit k stands for key k. */
        final int[] keys = new int[MAPS];
        /** Bit LEAVES * m + j stands for leaf j of map m. */
        int touchedLeaves = 0;
        int touchedMaps = 0;

        boolean has(int m, int k) {
            return (keys[m] >>> k & 1) == 1;
        }

        int valueOf(int m, int k) {
            return values[KEYS * m + k];
        }

        void assign(int m, int k, int v) {
            values[KEYS * m + k] = v;
            keys[m] |= 1 << k;
            touchLeaf(m, k / LEAF_KEYS);
        }

        void erase(int m, int k) {
            keys[m] &= ~(1 << k);
            touchLeaf(m, k / LEAF_KEYS);
        }

        int size() {
            int total = 0;
            for (int m = 0; m < MAPS; m++) {
                total += Integer.bitCount(keys[m]);
            }
            return total;
        }

        boolean isTouched() {
            return touchedLeaves != 0 || touchedMaps != 0;
        }

        void forgetTouched() {
            touchedLeaves = 0;
            touchedMaps = 0;
        }

        int touchPagesIn(Chunk sparse, Meta meta) {
            int touched = 0;
            for (int m = 0; m < MAPS; m++) {
                if (meta.roots[m] != null && meta.roots[m].home == sparse) {
                    touchedMaps |= 1 << m;
                    touched++;
                }
                for (int j = 0; j < LEAVES; j++) {
                    Leaf leaf = meta.leafOf(m, j);
                    if (leaf != null && leaf.home == sparse) {
                        touchLeaf(m, j);
                        touched++;
                    }
                }
            }
            return touched;
        }

        void load(Meta meta) {
            forgetTouched();
            for (int m = 0; m < MAPS; m++) {
                keys[m] = 0;
                for (int j = 0; j < LEAVES; j++) {
                    Leaf leaf = meta == null ? null : meta.leafOf(m, j);
                    if (leaf != null) {
                        keys[m] |= leaf.keys << (LEAF_KEYS * j);
                        System.arraycopy(leaf.values, 0, values, KEYS * m + LEAF_KEYS * j, LEAF_KEYS);
                    }
                }
            }
        }

        int pagesToWrite() {
            int pageCount = 1;
            for (int m = 0; m < MAPS; m++) {
                if (needsRoot(m)) {
                    pageCount++;
                }
                for (int j = 0; j < LEAVES; j++) {
                    if (needsLeaf(m, j)) {
                        pageCount++;
                    }
                }
            }
            return pageCount;
        }

        /** Leaves come before their root and roots before the meta, so each is appended when filled. */
        void writeTouched(Chunk target, int version, Meta before) {
            Meta meta = new Meta(version);
            for (int m = 0; m < MAPS; m++) {
                if (isMapChanged(m)) {
                    meta.roots[m] = writeMap(target, m, before);
                } else if (before != null) {
                    meta.roots[m] = before.roots[m];
                }
            }
            target.close(meta);
        }

        private Root writeMap(Chunk target, int m, Meta before) {
            if (!needsRoot(m)) {
                return null;
            }
            Root root = new Root();
            for (int j = 0; j < LEAVES; j++) {
                if (needsLeaf(m, j)) {
                    root.leaves[j] = writeLeaf(target, m, j);
                } else if (!isLeafTouched(m, j) && before != null) {
                    root.leaves[j] = before.leafOf(m, j);
                }
            }
            target.append(root);
            return root;
        }

        private Leaf writeLeaf(Chunk target, int m, int j) {
            Leaf leaf = new Leaf();
            leaf.keys = leafKeys(m, j);
            System.arraycopy(values, KEYS * m + LEAF_KEYS * j, leaf.values, 0, LEAF_KEYS);
            target.append(leaf);
            return leaf;
        }

        private void touchLeaf(int m, int j) {
            touchedLeaves |= 1 << (LEAVES * m + j);
        }

        private boolean isLeafTouched(int m, int j) {
            return (touchedLeaves >> (LEAVES * m + j) & 1) == 1;
        }

        private int leafKeys(int m, int j) {
            return keys[m] >>> (LEAF_KEYS * j) & LEAF_MASK;
        }

        private boolean isMapChanged(int m) {
            return (touchedMaps >> m & 1) == 1 || (touchedLeaves >> (LEAVES * m) & MAP_MASK) != 0;
        }

        private boolean needsLeaf(int m, int j) {
            return isLeafTouched(m, j) && leafKeys(m, j) != 0;
        }

        private boolean needsRoot(int m) {
            return isMapChanged(m) && keys[m] != 0;
        }
    }

    /** The blocks: who holds each one now, and who held it when all was last known to be written. */
    private static final class BlockFile {
        final Chunk[] contents = new Chunk[BLOCKS];
        final Chunk[] settled = new Chunk[BLOCKS];
        final boolean[] isFree = new boolean[BLOCKS];
        final boolean[] isPending = new boolean[BLOCKS];
        /** One row is enough: a block is not freed, so not written again, while its write is pending. */
        final int[] pendingBlocks = new int[BLOCKS];
        int pendingCount = 0;

        BlockFile() {
            for (int b = 0; b < BLOCKS; b++) {
                isFree[b] = true;
            }
        }

        int findFreeRow(int length) {
            int run = 0;
            for (int b = 0; b < BLOCKS; b++) {
                run = isFree[b] ? run + 1 : 0;
                if (run >= length) {
                    return b - length + 1;
                }
            }
            return FULL;
        }

        int freeCount() {
            int free = 0;
            for (int b = 0; b < BLOCKS; b++) {
                if (isFree[b]) {
                    free++;
                }
            }
            return free;
        }

        void write(Chunk written) {
            for (int i = 0; i < written.blockCount(); i++) {
                int b = written.first + i;
                contents[b] = written;
                isFree[b] = false;
                isPending[b] = true;
                pendingBlocks[pendingCount] = b;
                pendingCount++;
            }
        }

        void release(Chunk dead) {
            for (int i = 0; i < dead.blockCount(); i++) {
                isFree[dead.first + i] = true;
            }
        }

        void settlePending() {
            for (int i = 0; i < pendingCount; i++) {
                int b = pendingBlocks[i];
                isPending[b] = false;
                settled[b] = contents[b];
            }
            pendingCount = 0;
        }

        void losePending(int done, int mask) {
            for (int i = done; i < pendingCount; i++) {
                int j = i - done;
                if (j >= MASK_BITS || (mask >> j & 1) == 0) {
                    int b = pendingBlocks[i];
                    contents[b] = settled[b];
                }
            }
            settlePending();
        }

        Chunk newestReadable() {
            Chunk newest = null;
            for (int b = 0; b < BLOCKS; b++) {
                Chunk candidate = contents[b];
                if (candidate != null && (newest == null || candidate.id > newest.id)
                        && isWhole(candidate) && holdsAllOf(candidate.meta)) {
                    newest = candidate;
                }
            }
            return newest;
        }

        int greatestId() {
            int greatest = 0;
            for (int b = 0; b < BLOCKS; b++) {
                if (contents[b] != null) {
                    greatest = Math.max(greatest, contents[b].id);
                }
            }
            return greatest;
        }

        private boolean isWhole(Chunk candidate) {
            for (int i = 0; i < candidate.blockCount(); i++) {
                if (contents[candidate.first + i] != candidate) {
                    return false;
                }
            }
            return true;
        }

        private boolean holdsAllOf(Meta meta) {
            for (int m = 0; m < MAPS; m++) {
                if (meta.roots[m] != null && !holdsPage(meta.roots[m])) {
                    return false;
                }
                for (int j = 0; j < LEAVES; j++) {
                    Leaf leaf = meta.leafOf(m, j);
                    if (leaf != null && !holdsPage(leaf)) {
                        return false;
                    }
                }
            }
            return true;
        }

        private boolean holdsPage(Page page) {
            return contents[page.home.first + page.place / PAGES_PER_BLOCK] == page.home;
        }
    }
}
