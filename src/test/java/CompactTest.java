/** Promise 13: compact. */
public final class CompactTest {
    private CompactTest() {
    }

    public static void main(String[] args) {
        numbersOutOfRange();
        sparseChunkIsWrittenAnew();
        mustBeBelowTheNumber();
        leastIdOfSeveral();
        leastShareFirst();
        deadChunksAndTheLatestAreLeftOut();
        pagesOfOldVersionsAlone();
        touchedAlready();
        rootAlone();
        rootsOfSeveralMaps();
        Check.finish();
    }

    private static void due(String call, long got, long want) {
        Check.due(13, call, got, want);
    }

    private static void numbersOutOfRange() {
        VersionMaps x = new VersionMaps();
        int[] wrong = {0, -1, 65, Integer.MIN_VALUE, Integer.MAX_VALUE};
        for (int n : wrong) {
            due("compact(" + n + ")", x.compact(n), VersionMaps.REFUSED);
        }
        due("compact(1) of an empty file", x.compact(1), VersionMaps.NONE);
        due("compact(64) of an empty file", x.compact(64), VersionMaps.NONE);
    }

    /** Chunk 1 has two leaves and the root of map 0 and one leaf and the root of map 2; chunk 2 is the latest. */
    private static VersionMaps sparse() {
        VersionMaps x = new VersionMaps();
        x.hold(0);
        x.put(0, 0, 1);
        x.put(0, 8, 2);
        x.put(2, 31, 3);
        x.commit();
        x.put(0, 0, 4);
        x.commit();
        return x;
    }

    private static void sparseChunkIsWrittenAnew() {
        VersionMaps x = sparse();
        due("chunk(0, 4)", x.chunk(0, 4), 3);
        due("compact(64)", x.compact(64), 3);
        due("count(6)", x.count(6), 2);
        due("count(7)", x.count(7), 1);
        due("count(9)", x.count(9), 3);
        due("commit()", x.commit(), 3);
        due("count(7)", x.count(7), 0);
        due("chunk(0, 4)", x.chunk(0, 4), 0);
        due("chunk(2, 3): a leaf and a root of map 0, the same of map 2, a meta", x.chunk(2, 3), 5);
        due("sync()", x.sync(), 8);
        due("count(3)", x.count(3), 2);
        due("get(0, 8)", x.get(0, 8), 2);
        due("at(3, 0, 0)", x.at(3, 0, 0), 4);
        due("at(3, 0, 8)", x.at(3, 0, 8), 2);
        due("at(3, 2, 31)", x.at(3, 2, 31), 3);
    }

    private static void mustBeBelowTheNumber() {
        VersionMaps x = sparse();
        due("compact(32) of a half", x.compact(32), VersionMaps.NONE);
        due("count(6)", x.count(6), 0);
        due("compact(33) of a half", x.compact(33), 3);
        VersionMaps y = new VersionMaps();
        y.put(0, 0, 1);
        y.commit();
        y.put(1, 0, 1);
        y.commit();
        due("compact(64) of a full one", y.compact(64), VersionMaps.NONE);
        y.hold(0);
        due("compact(42) of two thirds, cut", y.compact(42), VersionMaps.NONE);
        due("compact(43) of two thirds, cut", y.compact(43), 2);
    }

    private static void leastIdOfSeveral() {
        VersionMaps x = new VersionMaps();
        x.hold(0);
        x.put(0, 0, 1);
        x.commit();
        x.put(1, 0, 1);
        x.commit();
        x.put(2, 0, 1);
        x.commit();
        due("chunk(0, 4)", x.chunk(0, 4), 2);
        due("chunk(1, 4)", x.chunk(1, 4), 2);
        due("compact(64)", x.compact(64), 2);
        x.commit();
        due("the first one is dead", x.chunk(0, 4), 0);
        due("the second one is not", x.chunk(1, 4), 2);
    }

    private static void leastShareFirst() {
        VersionMaps x = new VersionMaps();
        x.hold(0);
        x.put(0, 0, 1);
        x.commit();
        x.put(1, 0, 1);
        x.put(1, 8, 1);
        x.put(1, 16, 1);
        x.commit();
        x.put(1, 0, 2);
        x.commit();
        due("chunk(0, 4) of 3", x.chunk(0, 4), 2);
        due("chunk(1, 4) of 5", x.chunk(1, 4), 2);
        due("compact(26)", x.compact(26), 2);
        due("count(6)", x.count(6), 2);
        due("count(7)", x.count(7), 0);
    }

    private static void deadChunksAndTheLatestAreLeftOut() {
        VersionMaps x = new VersionMaps();
        x.hold(0);
        x.put(0, 0, 1);
        x.commit();
        x.put(0, 0, 2);
        x.commit();
        due("chunk(0, 4)", x.chunk(0, 4), 0);
        due("compact(64) with a dead one and the latest", x.compact(64), VersionMaps.NONE);
        due("rollback(2)", x.rollback(2), 3);
        due("compact(64) of the pages behind it", x.compact(64), 2);
    }

    private static void pagesOfOldVersionsAlone() {
        VersionMaps x = new VersionMaps();
        x.put(0, 0, 1);
        x.put(1, 0, 1);
        x.commit();
        x.put(0, 0, 2);
        x.commit();
        x.pin(2);
        x.put(1, 0, 2);
        x.commit();
        x.put(0, 0, 3);
        x.commit();
        due("chunk(0, 4): a leaf and a root of version 2", x.chunk(0, 4), 2);
        due("compact(26)", x.compact(26), 0);
        due("count(6)", x.count(6), 0);
        due("commit()", x.commit(), 4);
    }

    private static void touchedAlready() {
        VersionMaps x = sparse();
        x.remove(2, 31);
        due("compact(64) counts what is touched already", x.compact(64), 3);
        due("count(6)", x.count(6), 2);
        due("compact(64) again", x.compact(64), 3);
        due("commit()", x.commit(), 3);
        due("chunk(2, 3): no page of map 2", x.chunk(2, 3), 3);
        due("at(3, 2, 31)", x.at(3, 2, 31), VersionMaps.NOTHING);
    }

    private static void rootAlone() {
        VersionMaps x = new VersionMaps();
        x.hold(0);
        x.put(0, 0, 1);
        x.put(0, 8, 1);
        x.commit();
        x.remove(0, 8);
        x.commit();
        x.put(1, 0, 1);
        x.commit();
        due("chunk(1, 4): the root", x.chunk(1, 4), 1);
        due("compact(33): the leaf in the first one", x.compact(33), 1);
        due("count(6)", x.count(6), 1);
        due("count(7)", x.count(7), 0);
        VersionMaps z = new VersionMaps();
        z.hold(0);
        z.put(3, 0, 1);
        z.put(3, 8, 1);
        z.commit();
        z.pin(1);
        z.remove(3, 8);
        z.commit();
        z.put(1, 0, 1);
        z.commit();
        due("chunk(0, 4) pinned", z.chunk(0, 4), 4);
        due("chunk(1, 4): a root", z.chunk(1, 4), 1);
        due("compact(64): the root", z.compact(64), 1);
        due("count(6)", z.count(6), 0);
        due("count(7)", z.count(7), 1);
        due("commit(): a root and a meta", z.commit(), 4);
        due("chunk(3, 3)", z.chunk(3, 3), 2);
        due("at(4, 3, 0)", z.at(4, 3, 0), 1);
        due("at(4, 3, 8)", z.at(4, 3, 8), VersionMaps.NOTHING);
    }

    private static void rootsOfSeveralMaps() {
        VersionMaps x = new VersionMaps();
        x.hold(0);
        x.put(0, 0, 1);
        x.put(1, 0, 1);
        x.put(3, 31, 1);
        x.commit();
        x.put(0, 0, 2);
        x.commit();
        due("compact(64)", x.compact(64), 4);
        due("count(6)", x.count(6), 2);
        due("count(7)", x.count(7), 2);
        due("commit()", x.commit(), 3);
        due("chunk(2, 3)", x.chunk(2, 3), 5);
        due("chunk(0, 4)", x.chunk(0, 4), 0);
    }
}
