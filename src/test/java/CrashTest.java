/** Promise 14: crash. */
public final class CrashTest {
    private CrashTest() {
    }

    public static void main(String[] args) {
        numbersOutOfRange();
        everythingIsDone();
        everythingIsLost();
        maskTellsSingleWrites();
        beyondTheMaskAllIsLost();
        notWholeIsNotTaken();
        pagesItLeadsToAreNeeded();
        eachPageIsLookedForInItsBlock();
        singlePages();
        brokenChunkIsUsedForItsPages();
        greatestIdNotGreatestVersion();
        blocksHoldWhatTheyHeldBefore();
        whatACrashLeavesIsHeldFromThenOn();
        nothingElseStays();
        nextIdAfterLostOnes();
        deadChunksAreFoundAgain();
        Check.finish();
    }

    private static void due(String call, long got, long want) {
        Check.due(14, call, got, want);
    }

    private static void putAndCommit(VersionMaps x, int m, int v) {
        x.put(m, 0, v);
        x.commit();
    }

    private static void numbersOutOfRange() {
        VersionMaps x = new VersionMaps();
        putAndCommit(x, 0, 1);
        int[][] wrong = {{-1, 0}, {3, 0}, {0, -1}, {0, 65536}, {Integer.MIN_VALUE, 0}, {Integer.MAX_VALUE, 0},
            {0, Integer.MIN_VALUE}, {0, Integer.MAX_VALUE}};
        for (int[] row : wrong) {
            due("crash(" + row[0] + ", " + row[1] + ")", x.crash(row[0], row[1]), VersionMaps.REFUSED);
        }
        due("count(5) after refusals", x.count(5), 2);
        due("count(1) after refusals", x.count(1), 2);
        due("crash(2, 65535)", x.crash(2, 65535), 1);
    }

    private static void everythingIsDone() {
        VersionMaps x = new VersionMaps();
        putAndCommit(x, 0, 1);
        putAndCommit(x, 1, 2);
        x.put(0, 0, 9);
        due("crash(4, 0)", x.crash(4, 0), 2);
        due("get(0, 0)", x.get(0, 0), 1);
        due("get(1, 0)", x.get(1, 0), 2);
        due("count(3)", x.count(3), 2);
        due("count(6)", x.count(6), 0);
        due("count(5)", x.count(5), 0);
        due("block(0, 3)", x.block(0, 3), 0);
        due("chunk(0, 4)", x.chunk(0, 4), 2);
    }

    private static void everythingIsLost() {
        VersionMaps x = new VersionMaps();
        due("crash(0, 0) of nothing", x.crash(0, 0), 0);
        putAndCommit(x, 0, 1);
        due("crash(0, 0)", x.crash(0, 0), 0);
        int[] counts = {0, 1, 1, 0, 32, 0, 0, 0, 0, 0};
        for (int what = 0; what < counts.length; what++) {
            due("count(" + what + ")", x.count(what), counts[what]);
        }
        due("block(0, 1)", x.block(0, 1), 0);
        due("at(0, 0, 0)", x.at(0, 0, 0), VersionMaps.NOTHING);
        due("pin(0)", x.pin(0), 1);
    }

    private static void maskTellsSingleWrites() {
        int[] want = {0, 0, 0, 1, 0, 0, 0, 1, 0, 0, 0, 1, 2, 2, 2, 2};
        for (int mask = 0; mask < 16; mask++) {
            VersionMaps x = new VersionMaps();
            putAndCommit(x, 0, 1);
            putAndCommit(x, 0, 2);
            due("crash(0, " + mask + ")", x.crash(0, mask), want[mask]);
            for (int b = 0; b < 4; b++) {
                due("block(" + b + ", 1)", x.block(b, 1), (mask >> b & 1) == 0 ? 0 : 1 + b / 2);
            }
        }
        VersionMaps x = new VersionMaps();
        putAndCommit(x, 0, 1);
        putAndCommit(x, 0, 2);
        due("crash(1, 6): the mask begins behind the first ones", x.crash(1, 6), 2);
        due("block(0, 1)", x.block(0, 1), 1);
        due("block(1, 1)", x.block(1, 1), 0);
    }

    private static void beyondTheMaskAllIsLost() {
        VersionMaps x = new VersionMaps();
        for (int v = 1; v <= 9; v++) {
            putAndCommit(x, 0, v);
        }
        due("count(5)", x.count(5), 18);
        due("crash(0, 65535)", x.crash(0, 65535), 8);
        due("block(15, 1)", x.block(15, 1), 8);
        due("block(16, 1)", x.block(16, 1), 0);
        VersionMaps y = new VersionMaps();
        for (int v = 1; v <= 9; v++) {
            putAndCommit(y, 0, v);
        }
        due("crash(2, 65535)", y.crash(2, 65535), 9);
    }

    private static void notWholeIsNotTaken() {
        VersionMaps x = new VersionMaps();
        putAndCommit(x, 0, 1);
        x.sync();
        x.put(0, 0, 2);
        x.put(1, 0, 2);
        x.commit();
        due("crash(0, 6): the meta, but not the first block", x.crash(0, 6), 1);
        due("get(0, 0)", x.get(0, 0), 1);
        due("block(3, 1)", x.block(3, 1), 2);
        due("block(3, 2)", x.block(3, 2), 1);
        due("block(3, 0)", x.block(3, 0), 1);
        due("count(4)", x.count(4), 30);
        due("count(2)", x.count(2), 3);
        putAndCommit(x, 0, 3);
        due("chunk(1, 1): the row of free ones", x.chunk(1, 1), 2);
    }

    private static void pagesItLeadsToAreNeeded() {
        VersionMaps x = new VersionMaps();
        putAndCommit(x, 0, 1);
        x.sync();
        putAndCommit(x, 1, 2);
        putAndCommit(x, 2, 3);
        due("crash(0, 12): chunk 3 without the pages of chunk 2", x.crash(0, 12), 1);
        due("get(2, 0)", x.get(2, 0), VersionMaps.NOTHING);
        due("block(4, 1)", x.block(4, 1), 3);
        due("count(2)", x.count(2), 4);
    }

    /** Chunk 1 has leaves 0 and 1, leaf 2 and the root, the meta; chunk 2 needs its leaves alone. */
    private static void eachPageIsLookedForInItsBlock() {
        int[] masks = {30, 29, 27, 23, 15};
        int[] want = {0, 0, 2, 1, 1};
        for (int i = 0; i < masks.length; i++) {
            VersionMaps x = new VersionMaps();
            x.put(0, 0, 1);
            x.put(0, 8, 2);
            x.put(0, 16, 3);
            x.commit();
            x.put(0, 24, 4);
            x.commit();
            due("crash(0, " + masks[i] + ") loses block " + i, x.crash(0, masks[i]), want[i]);
            for (int j = 0; j < 4; j++) {
                boolean there = want[i] == 2 || want[i] == 1 && j < 3;
                due("get(0, " + 8 * j + ")", x.get(0, 8 * j), there ? j + 1 : VersionMaps.NOTHING);
            }
        }
    }

    private static void singlePages() {
        VersionMaps x = new VersionMaps();
        x.put(0, 0, 1);
        x.remove(0, 0);
        x.commit();
        due("crash(1, 0): a meta alone in block 0", x.crash(1, 0), 1);
        due("count(3)", x.count(3), 1);
        VersionMaps y = new VersionMaps();
        y.put(0, 0, 1);
        y.commit();
        y.put(0, 8, 1);
        y.commit();
        due("crash(0, 14): leaf 0 is all that is missing", y.crash(0, 14), 0);
    }

    private static void brokenChunkIsUsedForItsPages() {
        VersionMaps x = new VersionMaps();
        x.put(0, 0, 1);
        x.put(1, 0, 2);
        x.commit();
        putAndCommit(x, 1, 3);
        due("count(5)", x.count(5), 5);
        due("crash(1, 12): the rest of chunk 1 is lost", x.crash(1, 12), 2);
        due("get(0, 0)", x.get(0, 0), 1);
        due("get(1, 0)", x.get(1, 0), 3);
        due("count(3)", x.count(3), 2);
        due("chunk(0, 0)", x.chunk(0, 0), 1);
        due("chunk(0, 2)", x.chunk(0, 2), 3);
        due("chunk(0, 4)", x.chunk(0, 4), 2);
        due("block(1, 0) is used", x.block(1, 0), 0);
        due("block(1, 1) holds nothing", x.block(1, 1), 0);
        due("block(2, 0) is used", x.block(2, 0), 0);
        due("count(4)", x.count(4), 27);
        due("compact(64)", x.compact(64), 2);
        due("commit()", x.commit(), 3);
        x.hold(0);
        x.sync();
        due("count(3)", x.count(3), 2);
        due("block(0, 0) is free at last", x.block(0, 0), 1);
        due("block(2, 0) is free at last", x.block(2, 0), 1);
    }

    private static void greatestIdNotGreatestVersion() {
        VersionMaps x = new VersionMaps();
        x.hold(4);
        putAndCommit(x, 0, 1);
        putAndCommit(x, 0, 2);
        putAndCommit(x, 0, 3);
        x.rollback(1);
        due("crash(7, 0)", x.crash(7, 0), 1);
        due("get(0, 0)", x.get(0, 0), 1);
        due("count(2)", x.count(2), 5);
        due("count(1)", x.count(1), 1);
        VersionMaps y = new VersionMaps();
        y.hold(4);
        putAndCommit(y, 0, 1);
        putAndCommit(y, 0, 2);
        y.rollback(1);
        due("crash(4, 0): the rollback is lost", y.crash(4, 0), 2);
        due("get(0, 0)", y.get(0, 0), 2);
        due("count(2)", y.count(2), 3);
    }

    private static void blocksHoldWhatTheyHeldBefore() {
        VersionMaps x = new VersionMaps();
        x.hold(0);
        putAndCommit(x, 0, 1);
        putAndCommit(x, 0, 2);
        x.sync();
        putAndCommit(x, 0, 3);
        due("block(0, 1)", x.block(0, 1), 3);
        due("crash(0, 2)", x.crash(0, 2), 2);
        due("block(0, 1)", x.block(0, 1), 1);
        due("block(0, 0)", x.block(0, 0), 1);
        due("block(1, 1)", x.block(1, 1), 3);
        due("block(1, 2)", x.block(1, 2), 1);
        due("count(2)", x.count(2), 4);
    }

    private static void whatACrashLeavesIsHeldFromThenOn() {
        VersionMaps x = new VersionMaps();
        x.hold(0);
        putAndCommit(x, 0, 1);
        due("crash(0, 1)", x.crash(0, 1), 0);
        due("count(2)", x.count(2), 2);
        putAndCommit(x, 0, 2);
        due("block(0, 1)", x.block(0, 1), 2);
        due("crash(0, 2)", x.crash(0, 2), 0);
        due("block(0, 1) as the first crash left it", x.block(0, 1), 1);
        due("block(1, 1)", x.block(1, 1), 2);
        due("count(2)", x.count(2), 3);
        putAndCommit(x, 0, 3);
        due("crash(2, 0)", x.crash(2, 0), 1);
        due("crash(0, 0) loses nothing of it", x.crash(0, 0), 1);
        due("get(0, 0)", x.get(0, 0), 3);
    }

    private static void nothingElseStays() {
        VersionMaps x = new VersionMaps();
        x.hold(3);
        putAndCommit(x, 0, 1);
        x.pin(1);
        putAndCommit(x, 1, 2);
        x.pin(2);
        putAndCommit(x, 2, 3);
        x.sync();
        x.compact(64);
        x.put(3, 3, 3);
        due("crash(0, 0)", x.crash(0, 0), 3);
        due("count(1)", x.count(1), 1);
        due("kept(0)", x.kept(0), 3);
        due("unpin(1)", x.unpin(1), VersionMaps.NONE);
        due("count(6)", x.count(6), 0);
        due("count(7)", x.count(7), 0);
        due("count(8)", x.count(8), 7);
        due("get(3, 3)", x.get(3, 3), VersionMaps.NOTHING);
        due("hold(3) stays", x.hold(3), 3);
        x.compact(64);
        due("count(7)", x.count(7), 1);
        due("crash(0, 0)", x.crash(0, 0), 3);
        due("count(7)", x.count(7), 0);
        x.pin(3);
        due("crash(0, 0)", x.crash(0, 0), 3);
        due("unpin(3) after a crash", x.unpin(3), VersionMaps.NONE);
    }

    private static void nextIdAfterLostOnes() {
        VersionMaps x = new VersionMaps();
        putAndCommit(x, 0, 1);
        x.sync();
        putAndCommit(x, 0, 2);
        putAndCommit(x, 0, 3);
        due("count(2)", x.count(2), 4);
        due("crash(0, 0)", x.crash(0, 0), 1);
        due("count(2) after lost ones", x.count(2), 2);
        putAndCommit(x, 0, 4);
        due("chunk(1, 0)", x.chunk(1, 0), 2);
        due("chunk(1, 5)", x.chunk(1, 5), 2);
    }

    private static void deadChunksAreFoundAgain() {
        VersionMaps x = new VersionMaps();
        x.hold(0);
        putAndCommit(x, 0, 1);
        x.sync();
        putAndCommit(x, 0, 2);
        due("chunk(0, 4): dead", x.chunk(0, 4), 0);
        due("crash(1, 0)", x.crash(1, 0), 1);
        due("chunk(0, 4): there again", x.chunk(0, 4), 3);
        due("count(3)", x.count(3), 1);
        due("get(0, 0)", x.get(0, 0), 1);
        due("block(2, 0)", x.block(2, 0), 1);
    }
}
