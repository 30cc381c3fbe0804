/** Promises 9, 10, 11 and 17: pin, unpin, hold, kept. */
public final class KeepTest {
    private KeepTest() {
    }

    public static void main(String[] args) {
        pin();
        pinnedOnesAreNotCountedByTheHold();
        unpin();
        unpinMayDropAnother();
        hold();
        holdIsOneAtFirst();
        kept();
        Check.finish();
    }

    private static void putAndCommit(VersionMaps x, int v) {
        x.put(0, 0, v);
        x.commit();
    }

    private static void keptAre(int promise, VersionMaps x, int... want) {
        for (int i = 0; i < want.length; i++) {
            Check.due(promise, "kept(" + i + ")", x.kept(i), want[i]);
        }
        Check.due(promise, "kept(" + want.length + ")", x.kept(want.length), VersionMaps.REFUSED);
        Check.due(promise, "count(1)", x.count(1), want.length);
    }

    private static void pin() {
        VersionMaps x = new VersionMaps();
        for (int i = 1; i <= 9; i++) {
            Check.due(9, "pin(0)", x.pin(0), i);
        }
        Check.due(9, "pin(0) for the tenth time", x.pin(0), VersionMaps.FULL);
        Check.due(9, "unpin(0)", x.unpin(0), 8);
        Check.due(9, "pin(0)", x.pin(0), 9);
        int[] wrong = {1, -1, Integer.MIN_VALUE, Integer.MAX_VALUE};
        for (int version : wrong) {
            Check.due(9, "pin(" + version + ")", x.pin(version), VersionMaps.NONE);
        }
        putAndCommit(x, 1);
        Check.due(9, "pin(1)", x.pin(1), 1);
        putAndCommit(x, 2);
        putAndCommit(x, 3);
        putAndCommit(x, 4);
        keptAre(9, x, 0, 1, 3, 4);
        Check.due(9, "at(1, 0, 0)", x.at(1, 0, 0), 1);
        Check.due(9, "at(2, 0, 0)", x.at(2, 0, 0), VersionMaps.GONE);
        Check.due(9, "pin(2) dropped", x.pin(2), VersionMaps.NONE);
    }

    private static void pinnedOnesAreNotCountedByTheHold() {
        VersionMaps x = new VersionMaps();
        putAndCommit(x, 1);
        putAndCommit(x, 2);
        keptAre(9, x, 1, 2);
        x.pin(1);
        keptAre(9, x, 1, 2);
        putAndCommit(x, 3);
        keptAre(9, x, 1, 2, 3);
        putAndCommit(x, 4);
        keptAre(9, x, 1, 3, 4);
    }

    private static void unpin() {
        VersionMaps x = new VersionMaps();
        x.hold(0);
        Check.due(10, "unpin(0)", x.unpin(0), VersionMaps.NONE);
        x.pin(0);
        x.pin(0);
        putAndCommit(x, 1);
        Check.due(10, "unpin(0)", x.unpin(0), 1);
        keptAre(10, x, 0, 1);
        Check.due(10, "unpin(0)", x.unpin(0), 0);
        keptAre(10, x, 1);
        Check.due(10, "unpin(0) dropped", x.unpin(0), VersionMaps.NONE);
        x.pin(1);
        Check.due(10, "unpin(1), the latest", x.unpin(1), 0);
        keptAre(10, x, 1);
        Check.due(10, "unpin(1)", x.unpin(1), VersionMaps.NONE);
        int[] wrong = {2, -1, Integer.MIN_VALUE, Integer.MAX_VALUE};
        for (int version : wrong) {
            Check.due(10, "unpin(" + version + ")", x.unpin(version), VersionMaps.NONE);
        }
        x.pin(1);
        putAndCommit(x, 2);
        Check.due(10, "chunk(0, 4)", x.chunk(0, 4), 3);
        Check.due(10, "unpin(1)", x.unpin(1), 0);
        Check.due(10, "chunk(0, 4) of a dropped version", x.chunk(0, 4), 0);
        Check.due(10, "count(8)", x.count(8), 3);
    }

    private static void unpinMayDropAnother() {
        VersionMaps x = new VersionMaps();
        putAndCommit(x, 1);
        x.pin(1);
        putAndCommit(x, 2);
        keptAre(10, x, 0, 1, 2);
        Check.due(10, "unpin(1)", x.unpin(1), 0);
        keptAre(10, x, 1, 2);
    }

    private static void hold() {
        VersionMaps x = new VersionMaps();
        Check.due(11, "hold(4)", x.hold(4), 1);
        for (int v = 1; v <= 6; v++) {
            putAndCommit(x, v);
        }
        keptAre(11, x, 2, 3, 4, 5, 6);
        int[] wrong = {-1, 5, Integer.MIN_VALUE, Integer.MAX_VALUE};
        for (int n : wrong) {
            Check.due(11, "hold(" + n + ")", x.hold(n), VersionMaps.REFUSED);
        }
        keptAre(11, x, 2, 3, 4, 5, 6);
        x.pin(3);
        Check.due(11, "hold(2)", x.hold(2), 4);
        keptAre(11, x, 3, 4, 5, 6);
        Check.due(11, "hold(4)", x.hold(4), 2);
        keptAre(11, x, 3, 4, 5, 6);
        Check.due(11, "hold(0)", x.hold(0), 4);
        keptAre(11, x, 3, 6);
        Check.due(11, "count(8)", x.count(8), 6);
        Check.due(11, "chunk(4, 4) of a dropped version", x.chunk(4, 4), 0);
        Check.due(11, "hold(0)", x.hold(0), 0);
        putAndCommit(x, 7);
        keptAre(11, x, 3, 7);
    }

    private static void holdIsOneAtFirst() {
        VersionMaps x = new VersionMaps();
        putAndCommit(x, 1);
        keptAre(11, x, 0, 1);
        putAndCommit(x, 2);
        keptAre(11, x, 1, 2);
    }

    private static void kept() {
        VersionMaps x = new VersionMaps();
        keptAre(17, x, 0);
        x.hold(3);
        for (int v = 1; v <= 3; v++) {
            putAndCommit(x, v);
        }
        keptAre(17, x, 0, 1, 2, 3);
        int[] wrong = {-1, 4, 5, Integer.MIN_VALUE, Integer.MAX_VALUE};
        for (int k : wrong) {
            Check.due(17, "kept(" + k + ")", x.kept(k), VersionMaps.REFUSED);
        }
        x.crash(0, 0);
        keptAre(17, x, 0);
    }
}
