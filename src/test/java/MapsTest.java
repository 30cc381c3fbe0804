/** Promises 1 to 6: a new object, put, remove, get, at, next. */
public final class MapsTest {
    private static final int LEAST = Integer.MIN_VALUE;
    private static final int MOST = Integer.MAX_VALUE;

    private MapsTest() {
    }

    public static void main(String[] args) {
        newObject();
        newObjectsAreApart();
        put();
        remove();
        get();
        at();
        next();
        Check.finish();
    }

    private static void newObject() {
        VersionMaps x = new VersionMaps();
        int[] counts = {0, 1, 1, 0, 32, 0, 0, 0, 0, 0};
        for (int what = 0; what < counts.length; what++) {
            Check.due(1, "count(" + what + ")", x.count(what), counts[what]);
        }
        for (int b = 0; b < 32; b++) {
            Check.due(1, "block(" + b + ", 0)", x.block(b, 0), 1);
            Check.due(1, "block(" + b + ", 1)", x.block(b, 1), 0);
            Check.due(1, "block(" + b + ", 2)", x.block(b, 2), 0);
            Check.due(1, "block(" + b + ", 3)", x.block(b, 3), 0);
        }
        for (int m = 0; m < 4; m++) {
            for (int k = 0; k < 32; k++) {
                Check.due(1, "get(" + m + ", " + k + ")", x.get(m, k), VersionMaps.NOTHING);
                Check.due(1, "at(0, " + m + ", " + k + ")", x.at(0, m, k), VersionMaps.NOTHING);
            }
        }
        Check.due(1, "kept(0)", x.kept(0), 0);
        Check.due(1, "kept(1)", x.kept(1), VersionMaps.REFUSED);
        Check.due(1, "chunk(0, 0)", x.chunk(0, 0), VersionMaps.REFUSED);
        Check.due(1, "hold(1)", x.hold(1), 1);
        Check.due(1, "NOTHING", VersionMaps.NOTHING, 1099511627776L);
        Check.due(1, "GONE", VersionMaps.GONE, 2199023255552L);
        Check.due(1, "REFUSED", VersionMaps.REFUSED, -1);
        Check.due(1, "FULL", VersionMaps.FULL, -2);
        Check.due(1, "NONE", VersionMaps.NONE, -3);
    }

    private static void newObjectsAreApart() {
        VersionMaps x = new VersionMaps();
        VersionMaps y = new VersionMaps();
        x.put(0, 0, 1);
        x.commit();
        Check.due(1, "another object's get(0, 0)", y.get(0, 0), VersionMaps.NOTHING);
        Check.due(1, "another object's count(0)", y.count(0), 0);
        Check.due(1, "another object's count(4)", y.count(4), 32);
    }

    private static void put() {
        VersionMaps x = new VersionMaps();
        Check.due(2, "put(0, 0, 5)", x.put(0, 0, 5), 0);
        Check.due(2, "get(0, 0)", x.get(0, 0), 5);
        Check.due(2, "put(0, 0, 6)", x.put(0, 0, 6), 1);
        Check.due(2, "get(0, 0)", x.get(0, 0), 6);
        Check.due(2, "put(3, 31, LEAST)", x.put(3, 31, LEAST), 0);
        Check.due(2, "get(3, 31)", x.get(3, 31), LEAST);
        Check.due(2, "put(3, 24, MOST)", x.put(3, 24, MOST), 0);
        Check.due(2, "get(3, 24)", x.get(3, 24), MOST);
        Check.due(2, "count(6)", x.count(6), 2);
        Check.due(2, "count(7)", x.count(7), 0);
        Check.due(2, "count(9)", x.count(9), 3);
        Check.due(2, "get(1, 0)", x.get(1, 0), VersionMaps.NOTHING);
        Check.due(2, "get(0, 1)", x.get(0, 1), VersionMaps.NOTHING);
        Check.due(2, "commit()", x.commit(), 1);
        Check.due(2, "put(0, 0, 6)", x.put(0, 0, 6), 1);
        Check.due(2, "count(6) after the same int", x.count(6), 1);
        Check.due(2, "put(0, 7, 1)", x.put(0, 7, 1), 0);
        Check.due(2, "count(6) within one leaf", x.count(6), 1);
        Check.due(2, "put(0, 8, 1)", x.put(0, 8, 1), 0);
        Check.due(2, "count(6) beyond it", x.count(6), 2);
        int[][] wrong = {{-1, 0}, {4, 0}, {0, -1}, {0, 32}, {LEAST, 0}, {MOST, 0}, {0, LEAST}, {0, MOST}};
        for (int[] mk : wrong) {
            Check.due(2, "put out of range", x.put(mk[0], mk[1], 9), VersionMaps.REFUSED);
        }
        Check.due(2, "count(6) after refusals", x.count(6), 2);
        Check.due(2, "count(9) after refusals", x.count(9), 5);
    }

    private static void remove() {
        VersionMaps x = new VersionMaps();
        Check.due(3, "remove(0, 0)", x.remove(0, 0), 0);
        Check.due(3, "count(6)", x.count(6), 0);
        x.put(0, 0, 5);
        x.put(0, 1, 6);
        x.put(2, 31, 7);
        x.commit();
        Check.due(3, "remove(0, 2)", x.remove(0, 2), 0);
        Check.due(3, "count(6)", x.count(6), 0);
        Check.due(3, "remove(0, 0)", x.remove(0, 0), 1);
        Check.due(3, "count(6)", x.count(6), 1);
        Check.due(3, "get(0, 0)", x.get(0, 0), VersionMaps.NOTHING);
        Check.due(3, "get(0, 1)", x.get(0, 1), 6);
        Check.due(3, "remove(0, 0) again", x.remove(0, 0), 0);
        Check.due(3, "remove(2, 31)", x.remove(2, 31), 1);
        Check.due(3, "count(9)", x.count(9), 1);
        Check.due(3, "count(6)", x.count(6), 2);
        int[][] wrong = {{-1, 0}, {4, 0}, {0, -1}, {0, 32}, {LEAST, 0}, {MOST, 0}, {0, LEAST}, {0, MOST}};
        for (int[] mk : wrong) {
            Check.due(3, "remove out of range", x.remove(mk[0], mk[1]), VersionMaps.REFUSED);
        }
        Check.due(3, "count(9) after refusals", x.count(9), 1);
    }

    private static void get() {
        VersionMaps x = new VersionMaps();
        x.put(1, 9, -1);
        Check.due(4, "get(1, 9)", x.get(1, 9), -1);
        Check.due(4, "get(1, 8)", x.get(1, 8), VersionMaps.NOTHING);
        x.commit();
        x.put(1, 9, 0);
        Check.due(4, "get(1, 9) before a commit", x.get(1, 9), 0);
        x.remove(1, 9);
        Check.due(4, "get(1, 9) removed", x.get(1, 9), VersionMaps.NOTHING);
        int[][] wrong = {{-1, 0}, {4, 0}, {0, -1}, {0, 32}, {LEAST, 0}, {MOST, 0}, {0, LEAST}, {0, MOST}};
        for (int[] mk : wrong) {
            Check.due(4, "get out of range", x.get(mk[0], mk[1]), VersionMaps.GONE);
        }
    }

    private static void at() {
        VersionMaps x = new VersionMaps();
        x.put(1, 9, -7);
        Check.due(5, "at(0, 1, 9) before a commit", x.at(0, 1, 9), VersionMaps.NOTHING);
        Check.due(5, "at(1, 1, 9) before a commit", x.at(1, 1, 9), VersionMaps.GONE);
        x.commit();
        Check.due(5, "at(1, 1, 9)", x.at(1, 1, 9), -7);
        Check.due(5, "at(1, 1, 8) beside it", x.at(1, 1, 8), VersionMaps.NOTHING);
        Check.due(5, "at(1, 1, 0) another leaf", x.at(1, 1, 0), VersionMaps.NOTHING);
        Check.due(5, "at(1, 0, 9) another map", x.at(1, 0, 9), VersionMaps.NOTHING);
        Check.due(5, "at(0, 1, 9)", x.at(0, 1, 9), VersionMaps.NOTHING);
        x.put(1, 9, 8);
        x.put(1, 10, 9);
        Check.due(5, "at(1, 1, 9) is not now", x.at(1, 1, 9), -7);
        Check.due(5, "at(1, 1, 10) is not now", x.at(1, 1, 10), VersionMaps.NOTHING);
        x.commit();
        Check.due(5, "at(1, 1, 9)", x.at(1, 1, 9), -7);
        Check.due(5, "at(2, 1, 9)", x.at(2, 1, 9), 8);
        Check.due(5, "at(0, 1, 9) dropped", x.at(0, 1, 9), VersionMaps.GONE);
        Check.due(5, "at(3, 1, 9)", x.at(3, 1, 9), VersionMaps.GONE);
        Check.due(5, "at(-1, 1, 9)", x.at(-1, 1, 9), VersionMaps.GONE);
        Check.due(5, "at(LEAST, 1, 9)", x.at(LEAST, 1, 9), VersionMaps.GONE);
        Check.due(5, "at(MOST, 1, 9)", x.at(MOST, 1, 9), VersionMaps.GONE);
        int[][] wrong = {{-1, 0}, {4, 0}, {0, -1}, {0, 32}, {LEAST, 0}, {MOST, 0}, {0, LEAST}, {0, MOST}};
        for (int[] mk : wrong) {
            Check.due(5, "at out of range", x.at(2, mk[0], mk[1]), VersionMaps.GONE);
        }
        x.remove(1, 9);
        x.remove(1, 10);
        x.commit();
        Check.due(5, "at(3, 1, 9) of an empty map", x.at(3, 1, 9), VersionMaps.NOTHING);
        Check.due(5, "at(2, 1, 9)", x.at(2, 1, 9), 8);
    }

    private static void next() {
        VersionMaps x = new VersionMaps();
        Check.due(6, "next(0, 0) of an empty map", x.next(0, 0), VersionMaps.NONE);
        x.put(0, 0, 1);
        x.put(0, 17, 1);
        x.put(0, 31, 1);
        x.put(1, 5, 1);
        int[][] rows = {{0, 0, 0}, {0, 1, 17}, {0, 17, 17}, {0, 18, 31}, {0, 31, 31}, {0, 32, VersionMaps.NONE},
            {0, MOST, VersionMaps.NONE}, {0, -1, 0}, {0, LEAST, 0}, {1, LEAST, 5}, {1, 5, 5},
            {1, 6, VersionMaps.NONE}, {2, 0, VersionMaps.NONE}, {-1, 0, VersionMaps.REFUSED},
            {4, 0, VersionMaps.REFUSED}, {LEAST, 99, VersionMaps.REFUSED}, {MOST, -99, VersionMaps.REFUSED}};
        for (int[] row : rows) {
            Check.due(6, "next(" + row[0] + ", " + row[1] + ")", x.next(row[0], row[1]), row[2]);
        }
        x.remove(0, 17);
        Check.due(6, "next(0, 1) after a remove", x.next(0, 1), 31);
    }
}
