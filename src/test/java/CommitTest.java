/** Promises 7, 8 and 12: commit, rollback, sync. */
public final class CommitTest {
    private CommitTest() {
    }

    public static void main(String[] args) {
        nothingTouched();
        onlyTouchedPagesAreWritten();
        emptyLeavesAndMapsHaveNoPage();
        greatestChunk();
        firstRowThatFits();
        fullChangesNothing();
        freeBlocksThatAreNotInARow();
        rollbackToAnOldVersion();
        rollbackToTheLatest();
        rollbackBringsBackAllLeaves();
        rollbackDropsPinnedOnes();
        rollbackToTheBeginning();
        rollbackRefused();
        sync();
        Check.finish();
    }

    /** Touches all leaves of all maps: a chunk of 21 pages and 11 blocks. */
    private static void putEverywhere(VersionMaps x, int v) {
        for (int leaf = 0; leaf < 16; leaf++) {
            x.put(leaf / 4, leaf % 4 * 8, v);
        }
    }

    private static void chunkIs(int promise, VersionMaps x, int k, int... want) {
        for (int what = 0; what < want.length; what++) {
            Check.due(promise, "chunk(" + k + ", " + what + ")", x.chunk(k, what), want[what]);
        }
    }

    private static void nothingTouched() {
        VersionMaps x = new VersionMaps();
        Check.due(7, "commit() of nothing", x.commit(), 0);
        x.put(1, 1, 1);
        x.commit();
        Check.due(7, "commit() again", x.commit(), 1);
        Check.due(7, "count(2)", x.count(2), 2);
        Check.due(7, "count(3)", x.count(3), 1);
        Check.due(7, "count(5)", x.count(5), 2);
        Check.due(7, "kept(0)", x.kept(0), 0);
    }

    private static void onlyTouchedPagesAreWritten() {
        VersionMaps x = new VersionMaps();
        x.put(0, 0, 1);
        x.put(0, 8, 2);
        x.put(2, 31, 3);
        Check.due(7, "commit()", x.commit(), 1);
        chunkIs(7, x, 0, 1, 0, 3, 6, 6, 1);
        Check.due(7, "count(6)", x.count(6), 0);
        x.put(0, 1, 4);
        Check.due(7, "commit()", x.commit(), 2);
        chunkIs(7, x, 1, 2, 3, 2, 3, 3, 2);
        Check.due(7, "at(2, 0, 0)", x.at(2, 0, 0), 1);
        Check.due(7, "at(2, 0, 1)", x.at(2, 0, 1), 4);
        Check.due(7, "at(2, 0, 8)", x.at(2, 0, 8), 2);
        Check.due(7, "at(2, 2, 31)", x.at(2, 2, 31), 3);
        Check.due(7, "at(1, 0, 1)", x.at(1, 0, 1), VersionMaps.NOTHING);
        Check.due(7, "count(8)", x.count(8), 9);
        for (int b = 0; b < 6; b++) {
            Check.due(7, "block(" + b + ", 1)", x.block(b, 1), b < 3 ? 1 : b < 5 ? 2 : 0);
            Check.due(7, "block(" + b + ", 2)", x.block(b, 2), b < 3 ? b : b < 5 ? b - 3 : 0);
            Check.due(7, "block(" + b + ", 3)", x.block(b, 3), b < 5 ? 1 : 0);
            Check.due(7, "block(" + b + ", 0)", x.block(b, 0), b < 5 ? 0 : 1);
        }
    }

    private static void emptyLeavesAndMapsHaveNoPage() {
        VersionMaps x = new VersionMaps();
        x.put(0, 0, 1);
        x.remove(0, 0);
        Check.due(7, "commit() of an empty leaf", x.commit(), 1);
        chunkIs(7, x, 0, 1, 0, 1, 1, 1, 1);
        x.put(0, 0, 1);
        x.put(0, 8, 1);
        x.commit();
        x.remove(0, 8);
        Check.due(7, "commit() of one leaf less", x.commit(), 3);
        chunkIs(7, x, 2, 3, 3, 1, 2, 2, 3);
        Check.due(7, "at(3, 0, 8)", x.at(3, 0, 8), VersionMaps.NOTHING);
        Check.due(7, "at(3, 0, 0)", x.at(3, 0, 0), 1);
        Check.due(7, "at(2, 0, 8)", x.at(2, 0, 8), 1);
        x.remove(0, 0);
        Check.due(7, "commit() of one map less", x.commit(), 4);
        chunkIs(7, x, 3, 4, 4, 1, 1, 1, 4);
        Check.due(7, "at(4, 0, 0)", x.at(4, 0, 0), VersionMaps.NOTHING);
        x.put(0, 8, 5);
        Check.due(7, "commit() after an empty map", x.commit(), 5);
        Check.due(7, "at(5, 0, 0)", x.at(5, 0, 0), VersionMaps.NOTHING);
        Check.due(7, "at(5, 0, 8)", x.at(5, 0, 8), 5);
    }

    private static void greatestChunk() {
        VersionMaps x = new VersionMaps();
        putEverywhere(x, 1);
        Check.due(7, "count(6)", x.count(6), 16);
        Check.due(7, "commit() of all leaves", x.commit(), 1);
        chunkIs(7, x, 0, 1, 0, 11, 21, 21, 1);
        Check.due(7, "count(4)", x.count(4), 21);
    }

    private static void firstRowThatFits() {
        VersionMaps x = new VersionMaps();
        x.hold(0);
        x.put(0, 0, 1);
        x.commit();
        x.put(1, 0, 1);
        x.commit();
        x.put(0, 0, 2);
        x.commit();
        chunkIs(7, x, 2, 3, 4, 2);
        x.sync();
        chunkIs(7, x, 0, 2, 2, 2);
        x.put(2, 0, 1);
        x.put(2, 8, 1);
        x.put(3, 0, 1);
        x.commit();
        chunkIs(7, x, 2, 4, 6, 3);
        x.put(3, 8, 1);
        x.commit();
        chunkIs(7, x, 3, 5, 0, 2);
    }

    private static void fullChangesNothing() {
        VersionMaps x = new VersionMaps();
        putEverywhere(x, 1);
        x.commit();
        putEverywhere(x, 2);
        x.commit();
        putEverywhere(x, 3);
        Check.due(7, "commit() without room", x.commit(), VersionMaps.FULL);
        int[] counts = {2, 2, 3, 2, 10, 22, 16, 0, 42, 16};
        for (int what = 0; what < counts.length; what++) {
            Check.due(7, "count(" + what + ") after FULL", x.count(what), counts[what]);
        }
        Check.due(7, "get(3, 24)", x.get(3, 24), 3);
        Check.due(7, "at(2, 3, 24)", x.at(2, 3, 24), 2);
        x.hold(0);
        Check.due(7, "commit() with dead blocks", x.commit(), VersionMaps.FULL);
        x.sync();
        Check.due(7, "commit() with free blocks", x.commit(), 3);
        chunkIs(7, x, 1, 3, 0, 11);
    }

    private static void freeBlocksThatAreNotInARow() {
        VersionMaps x = new VersionMaps();
        x.hold(0);
        for (int v = 1; v <= 16; v++) {
            x.put(0, 0, v);
            x.commit();
            if (v % 2 == 0) {
                x.pin(v);
            }
        }
        Check.due(7, "count(4)", x.count(4), 0);
        x.sync();
        Check.due(7, "count(4)", x.count(4), 16);
        x.put(0, 8, 1);
        x.put(0, 16, 1);
        x.put(0, 24, 1);
        Check.due(7, "commit() of three blocks with holes of two", x.commit(), VersionMaps.FULL);
        Check.due(7, "rollback(16)", x.rollback(16), 17);
        Check.due(7, "block(0, 1)", x.block(0, 1), 17);
        x.put(0, 0, 1);
        Check.due(7, "commit() of two blocks", x.commit(), 17);
        chunkIs(7, x, x.count(3) - 1, 18, 4, 2, 3, 3, 17);
    }

    private static void rollbackToAnOldVersion() {
        VersionMaps x = new VersionMaps();
        x.hold(4);
        x.put(0, 0, 1);
        x.commit();
        x.put(0, 0, 2);
        x.put(1, 0, 2);
        x.commit();
        x.put(0, 0, 3);
        x.commit();
        x.put(2, 2, 2);
        Check.due(8, "rollback(1)", x.rollback(1), 4);
        int[] counts = {1, 2, 5, 4, 24, 8, 0, 0, 3, 1};
        for (int what = 0; what < counts.length; what++) {
            Check.due(8, "count(" + what + ")", x.count(what), counts[what]);
        }
        chunkIs(8, x, 3, 4, 7, 1, 1, 1, 1);
        Check.due(8, "live pages of the first chunk, without its meta", x.chunk(0, 4), 2);
        Check.due(8, "the version of that meta", x.chunk(0, 5), 1);
        Check.due(8, "get(0, 0)", x.get(0, 0), 1);
        Check.due(8, "get(1, 0)", x.get(1, 0), VersionMaps.NOTHING);
        Check.due(8, "get(2, 2)", x.get(2, 2), VersionMaps.NOTHING);
        Check.due(8, "at(1, 0, 0)", x.at(1, 0, 0), 1);
        Check.due(8, "at(2, 0, 0)", x.at(2, 0, 0), VersionMaps.GONE);
        Check.due(8, "kept(0)", x.kept(0), 0);
        Check.due(8, "kept(1)", x.kept(1), 1);
        Check.due(8, "sync()", x.sync(), 8);
        Check.due(8, "count(3)", x.count(3), 2);
        x.put(0, 0, 9);
        Check.due(8, "commit() bears the number again", x.commit(), 2);
        Check.due(8, "at(2, 0, 0)", x.at(2, 0, 0), 9);
        Check.due(8, "at(1, 0, 0)", x.at(1, 0, 0), 1);
    }

    private static void rollbackToTheLatest() {
        VersionMaps x = new VersionMaps();
        x.put(0, 0, 1);
        x.commit();
        x.put(0, 0, 2);
        x.put(3, 3, 3);
        Check.due(8, "rollback(1)", x.rollback(1), 2);
        Check.due(8, "get(0, 0)", x.get(0, 0), 1);
        Check.due(8, "get(3, 3)", x.get(3, 3), VersionMaps.NOTHING);
        Check.due(8, "count(6)", x.count(6), 0);
        Check.due(8, "commit()", x.commit(), 1);
        Check.due(8, "kept(0)", x.kept(0), 0);
    }

    private static void rollbackBringsBackAllLeaves() {
        VersionMaps x = new VersionMaps();
        for (int k = 0; k < 128; k++) {
            x.put(k / 32, k % 32, k * k);
        }
        x.commit();
        for (int k = 0; k < 128; k++) {
            x.put(k / 32, k % 32, -1);
        }
        x.remove(0, 31);
        Check.due(8, "rollback(1)", x.rollback(1), 2);
        for (int k = 0; k < 128; k++) {
            Check.due(8, "get(" + k / 32 + ", " + k % 32 + ")", x.get(k / 32, k % 32), k * k);
        }
        Check.due(8, "count(9)", x.count(9), 128);
    }

    private static void rollbackDropsPinnedOnes() {
        VersionMaps x = new VersionMaps();
        x.put(0, 0, 1);
        x.commit();
        x.pin(1);
        x.pin(1);
        x.put(0, 0, 2);
        x.commit();
        x.pin(2);
        x.put(0, 0, 3);
        x.commit();
        x.pin(3);
        Check.due(8, "rollback(1)", x.rollback(1), 4);
        Check.due(8, "count(1)", x.count(1), 2);
        Check.due(8, "kept(0), held as the only one that is not pinned", x.kept(0), 0);
        Check.due(8, "kept(1)", x.kept(1), 1);
        Check.due(8, "unpin(2)", x.unpin(2), VersionMaps.NONE);
        Check.due(8, "pin(1) stays pinned", x.pin(1), 3);
        x.put(0, 0, 4);
        x.commit();
        Check.due(8, "unpin(2) of the new one", x.unpin(2), VersionMaps.NONE);
        Check.due(8, "pin(2) of the new one", x.pin(2), 1);
    }

    private static void rollbackToTheBeginning() {
        VersionMaps x = new VersionMaps();
        x.put(0, 0, 1);
        x.commit();
        Check.due(8, "rollback(0)", x.rollback(0), 2);
        chunkIs(8, x, 1, 2, 2, 1, 1, 1, 0);
        Check.due(8, "count(0)", x.count(0), 0);
        Check.due(8, "count(1)", x.count(1), 1);
        Check.due(8, "count(8)", x.count(8), 1);
        Check.due(8, "count(9)", x.count(9), 0);
        Check.due(8, "get(0, 0)", x.get(0, 0), VersionMaps.NOTHING);
        Check.due(8, "at(0, 0, 0)", x.at(0, 0, 0), VersionMaps.NOTHING);
        Check.due(8, "crash(3, 0) finds that meta", x.crash(3, 0), 0);
        Check.due(8, "count(3)", x.count(3), 1);
        Check.due(8, "rollback(0) once more", x.rollback(0), 3);
        x.sync();
        Check.due(8, "count(3)", x.count(3), 1);
        VersionMaps y = new VersionMaps();
        Check.due(8, "rollback(0) of a new object", y.rollback(0), 1);
        chunkIs(8, y, 0, 1, 0, 1, 1, 1, 0);
        y.put(0, 0, 1);
        Check.due(8, "commit()", y.commit(), 1);
    }

    private static void rollbackRefused() {
        VersionMaps x = new VersionMaps();
        int[] wrong = {1, -1, Integer.MIN_VALUE, Integer.MAX_VALUE};
        for (int version : wrong) {
            Check.due(8, "rollback(" + version + ")", x.rollback(version), VersionMaps.NONE);
        }
        for (int i = 0; i < 32; i++) {
            Check.due(8, "rollback(0)", x.rollback(0), i + 1);
        }
        x.put(0, 0, 1);
        Check.due(8, "rollback(0) without a free block", x.rollback(0), VersionMaps.FULL);
        Check.due(8, "rollback(9) without a free block", x.rollback(9), VersionMaps.NONE);
        Check.due(8, "count(6) after FULL", x.count(6), 1);
        Check.due(8, "get(0, 0) after FULL", x.get(0, 0), 1);
        Check.due(8, "count(2) after FULL", x.count(2), 33);
        Check.due(8, "commit()", x.commit(), VersionMaps.FULL);
        x.sync();
        Check.due(8, "rollback(0)", x.rollback(0), 33);
        Check.due(8, "its block", x.chunk(1, 1), 0);
    }

    private static void sync() {
        VersionMaps x = new VersionMaps();
        Check.due(12, "sync() of nothing", x.sync(), 0);
        x.hold(0);
        x.put(0, 0, 1);
        x.commit();
        x.put(0, 0, 2);
        x.commit();
        Check.due(12, "count(3) with a dead one", x.count(3), 2);
        Check.due(12, "chunk(0, 4)", x.chunk(0, 4), 0);
        Check.due(12, "block(0, 0)", x.block(0, 0), 0);
        Check.due(12, "count(4)", x.count(4), 28);
        Check.due(12, "sync()", x.sync(), 4);
        Check.due(12, "count(5)", x.count(5), 0);
        Check.due(12, "count(3)", x.count(3), 1);
        Check.due(12, "count(4)", x.count(4), 30);
        Check.due(12, "block(0, 0)", x.block(0, 0), 1);
        Check.due(12, "block(0, 1) still holds it", x.block(0, 1), 1);
        Check.due(12, "block(2, 3)", x.block(2, 3), 0);
        Check.due(12, "block(2, 0)", x.block(2, 0), 0);
        Check.due(12, "chunk(0, 0)", x.chunk(0, 0), 2);
        Check.due(12, "sync() again", x.sync(), 0);
        Check.due(12, "count(2)", x.count(2), 3);
        x.put(0, 0, 3);
        Check.due(12, "sync() does not commit", x.sync(), 0);
        Check.due(12, "count(6)", x.count(6), 1);
        Check.due(12, "at(2, 0, 0)", x.at(2, 0, 0), 2);
    }
}
