/** Promises 15, 16 and 18: chunk, block, count. */
public final class AskTest {
    private static final int[] FAR = {Integer.MIN_VALUE, Integer.MAX_VALUE};

    private AskTest() {
    }

    public static void main(String[] args) {
        chunk();
        block();
        count();
        askingChangesNothing();
        Check.finish();
    }

    /** A dead chunk of two blocks, one there of three, and the latest of two behind a sync. */
    private static VersionMaps three() {
        VersionMaps x = new VersionMaps();
        x.put(0, 0, 1);
        x.commit();
        x.put(0, 0, 2);
        x.put(1, 31, 3);
        x.commit();
        x.sync();
        x.put(0, 0, 4);
        x.commit();
        return x;
    }

    private static void chunk() {
        VersionMaps x = three();
        int[][] want = {{1, 0, 2, 3, 0, 1}, {2, 2, 3, 5, 5, 2}, {3, 5, 2, 3, 3, 3}};
        for (int k = 0; k < want.length; k++) {
            for (int what = 0; what < 6; what++) {
                Check.due(15, "chunk(" + k + ", " + what + ")", x.chunk(k, what), want[k][what]);
            }
        }
        for (int what = -1; what <= 6; what++) {
            Check.due(15, "chunk(3, " + what + ")", x.chunk(3, what), VersionMaps.REFUSED);
            Check.due(15, "chunk(-1, " + what + ")", x.chunk(-1, what), VersionMaps.REFUSED);
        }
        Check.due(15, "chunk(0, -1)", x.chunk(0, -1), VersionMaps.REFUSED);
        Check.due(15, "chunk(0, 6)", x.chunk(0, 6), VersionMaps.REFUSED);
        for (int far : FAR) {
            Check.due(15, "chunk(" + far + ", 0)", x.chunk(far, 0), VersionMaps.REFUSED);
            Check.due(15, "chunk(0, " + far + ")", x.chunk(0, far), VersionMaps.REFUSED);
        }
        x.rollback(2);
        Check.due(15, "chunk(3, 5) by a rollback", x.chunk(3, 5), 2);
        Check.due(15, "chunk(1, 5) as it was written", x.chunk(1, 5), 2);
        Check.due(15, "chunk(1, 4) without its meta", x.chunk(1, 4), 4);
        x.sync();
        Check.due(15, "chunk(0, 0) by ids, without gone ones", x.chunk(0, 0), 2);
        Check.due(15, "chunk(1, 0)", x.chunk(1, 0), 4);
        Check.due(15, "chunk(2, 0)", x.chunk(2, 0), VersionMaps.REFUSED);
        x.put(3, 0, 1);
        x.commit();
        Check.due(15, "chunk(2, 1) by ids, not by blocks", x.chunk(2, 1), 0);
        Check.due(15, "chunk(2, 0)", x.chunk(2, 0), 5);
    }

    private static void block() {
        VersionMaps x = three();
        int[][] want = {{0, 1, 0, 0}, {0, 1, 1, 0}, {0, 2, 0, 0}, {0, 2, 1, 0}, {0, 2, 2, 0}, {0, 3, 0, 1},
            {0, 3, 1, 1}, {1, 0, 0, 0}};
        for (int b = 0; b < want.length; b++) {
            for (int what = 0; what < 4; what++) {
                Check.due(16, "block(" + b + ", " + what + ")", x.block(b, what), want[b][what]);
            }
        }
        Check.due(16, "block(31, 0)", x.block(31, 0), 1);
        for (int what = -1; what <= 4; what++) {
            Check.due(16, "block(32, " + what + ")", x.block(32, what), VersionMaps.REFUSED);
            Check.due(16, "block(-1, " + what + ")", x.block(-1, what), VersionMaps.REFUSED);
        }
        Check.due(16, "block(0, -1)", x.block(0, -1), VersionMaps.REFUSED);
        Check.due(16, "block(0, 4)", x.block(0, 4), VersionMaps.REFUSED);
        for (int far : FAR) {
            Check.due(16, "block(" + far + ", 0)", x.block(far, 0), VersionMaps.REFUSED);
            Check.due(16, "block(0, " + far + ")", x.block(0, far), VersionMaps.REFUSED);
        }
        x.sync();
        Check.due(16, "block(1, 0) is free", x.block(1, 0), 1);
        Check.due(16, "block(1, 1) and holds it", x.block(1, 1), 1);
        Check.due(16, "block(1, 2)", x.block(1, 2), 1);
        Check.due(16, "block(5, 3)", x.block(5, 3), 0);
    }

    private static void count() {
        VersionMaps x = three();
        x.put(2, 2, 2);
        x.put(2, 8, 2);
        x.remove(1, 31);
        int[] want = {3, 2, 4, 3, 25, 2, 3, 0, 8, 3};
        for (int what = 0; what < want.length; what++) {
            Check.due(18, "count(" + what + ")", x.count(what), want[what]);
        }
        int[] wrong = {-1, 10, Integer.MIN_VALUE, Integer.MAX_VALUE};
        for (int what : wrong) {
            Check.due(18, "count(" + what + ")", x.count(what), VersionMaps.REFUSED);
        }
        x.commit();
        int[] then = {4, 2, 5, 4, 23, 4, 0, 0, 9, 3};
        for (int what = 0; what < then.length; what++) {
            Check.due(18, "count(" + what + ") then", x.count(what), then[what]);
        }
        VersionMaps y = new VersionMaps();
        for (int m = 0; m < 4; m++) {
            for (int k = 0; k < 32; k++) {
                y.put(m, k, m * k);
            }
        }
        Check.due(18, "count(9) of all keys", y.count(9), 128);
        Check.due(18, "count(6) of all keys", y.count(6), 16);
    }

    private static void askingChangesNothing() {
        VersionMaps x = three();
        x.put(2, 2, 2);
        for (int round = 0; round < 3; round++) {
            x.chunk(0, 4);
            x.block(0, 1);
            x.kept(0);
            x.count(8);
            x.get(2, 2);
            x.at(2, 2, 2);
            x.next(2, 0);
        }
        int[] want = {3, 2, 4, 3, 25, 2, 1, 0, 8, 3};
        for (int what = 0; what < want.length; what++) {
            Check.due(18, "count(" + what + ") after questions", x.count(what), want[what]);
        }
    }
}
