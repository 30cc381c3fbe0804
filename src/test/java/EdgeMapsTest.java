/** The boundary cases of promises 1 to 6: a new object, put, remove, get, at, next. */
public final class EdgeMapsTest {
    /** Just outside of maps or keys, and as far as can be. */
    private static final int[] NO_MAPS = {-1, 4, Run.LEAST, Run.MOST};
    private static final int[] NO_KEYS = {-1, 32, Run.LEAST, Run.MOST};
    private static final int[] INTS = {0, 1, -1, Run.LEAST, Run.MOST};

    private EdgeMapsTest() {
    }

    public static void main(String[] args) {
        newMapsAreEmpty();
        newVersionIsZero();
        newFileIsEmpty();
        newObjectHasNothingTouchedOrPinned();
        constants();
        putAnswersWhetherItHadAnInt();
        putOfEachKeyIsItsOwn();
        putOfEachInt();
        putOfTheSameIntTouches();
        putTouchesItsLeafAlone();
        putRefused();
        removeOfEachKeyIsItsOwn();
        removeOfEachInt();
        removeTouchesItsLeafAlone();
        removeOfNone();
        removeOfWhatIsNotCommitted();
        removeRefused();
        getOutOfRange();
        getIsNow();
        atOutOfRange();
        atOfVersionsNotKept();
        atOfTheLeastAndGreatestKept();
        atOfEachInt();
        atOfTheBeginning();
        nextFromAnyInt();
        nextOfEachKey();
        nextStaysInItsMap();
        nextRefused();
        Check.finish();
    }

    private static void newMapsAreEmpty() {
        Run x = new Run(1, "Empty MAPS");
        for (int k = 0; k < 128; k++) {
            x.get(k / 32, k % 32).is(Run.NOTHING);
        }
        for (int m = 0; m < 4; m++) {
            x.next(m, Run.LEAST).is(Run.NONE);
        }
        x.count(9).is(0);
    }

    private static void newVersionIsZero() {
        Run x = new Run(1, "VERSION 0");
        x.count(0).is(0).keptAre(0);
        for (int k = 0; k < 128; k++) {
            x.at(0, k / 32, k % 32).is(Run.NOTHING);
        }
        x.at(-1, 0, 0).is(Run.GONE).at(1, 0, 0).is(Run.GONE);
        x.commit().is(0).count(0).is(0);
    }

    private static void newFileIsEmpty() {
        Run x = new Run(1, "an empty FILE");
        x.count(2).is(1).count(3).is(0).count(4).is(32).count(5).is(0).count(8).is(0);
        for (int b = 0; b < 32; b++) {
            x.block(b, 0).is(1).block(b, 1).is(0).block(b, 3).is(0);
        }
        for (int what = 0; what < 6; what++) {
            x.chunk(0, what).is(Run.REFUSED);
        }
        x.sync().is(0).crash(0, 65535).is(0).count(2).is(1);
    }

    private static void newObjectHasNothingTouchedOrPinned() {
        new Run(1, "at first none is").count(6).is(0).count(7).is(0);
        new Run(1, "at first 1").hold(1).is(1);
        new Run(1, "NONE if it is not PINNED").unpin(0).is(Run.NONE).pin(0).is(1);
    }

    private static void constants() {
        Check.due(1, "REFUSED", VersionMaps.REFUSED, -1);
        Check.due(1, "FULL", VersionMaps.FULL, -2);
        Check.due(1, "NONE", VersionMaps.NONE, -3);
        Check.due(1, "NOTHING", VersionMaps.NOTHING, 1L << 40);
        Check.due(1, "GONE", VersionMaps.GONE, 1L << 41);
    }

    private static void putAnswersWhetherItHadAnInt() {
        Run x = new Run(2, "1 if it had an int, else 0");
        x.put(1, 1, 0).is(0).put(1, 1, 0).is(1).put(1, 1, 5).is(1);
        x.remove(1, 1).put(1, 1, 5).is(0);
        x.commit().put(1, 1, 5).is(1).put(1, 2, 5).is(0);
        x.rollback(1).put(1, 1, 6).is(1).put(1, 2, 6).is(0);
        x.crash(0, 0).put(1, 1, 6).is(0);
    }

    private static void putOfEachKeyIsItsOwn() {
        for (int key = 0; key < 128; key++) {
            Run x = new Run(2, "KEY k of MAP m has v");
            x.put(key / 32, key % 32, 7).is(0);
            for (int k = 0; k < 128; k++) {
                x.get(k / 32, k % 32).is(k == key ? 7 : Run.NOTHING);
            }
            x.count(9).is(1).commit().is(1);
            for (int k = 0; k < 128; k++) {
                x.at(1, k / 32, k % 32).is(k == key ? 7 : Run.NOTHING);
            }
        }
    }

    private static void putOfEachInt() {
        for (int v : INTS) {
            Run x = new Run(2, "KEY k of MAP m has v");
            x.put(0, 0, v).is(0).get(0, 0).is(v).put(3, 31, v).is(0).get(3, 31).is(v).count(9).is(2);
        }
    }

    private static void putOfTheSameIntTouches() {
        Run x = new Run(2, "its LEAF is TOUCHED (also if it had v)");
        x.commitOne(2, 15, 4).is(1).put(2, 15, 4).is(1).count(6).is(1).count(7).is(0).commit().is(2);
        x.chunkIs(1, 2, 2, 2, 3, 3, 2);
    }

    private static void putTouchesItsLeafAlone() {
        for (int leaf = 0; leaf < 16; leaf++) {
            Run x = new Run(2, "LEAF j (0..3) of a MAP are its KEYS 8 j to 8 j + 7");
            int m = leaf / 4;
            int first = leaf % 4 * 8;
            for (int k = first; k < first + 8; k++) {
                x.put(m, k, k).count(6).is(1).count(7).is(0);
            }
            if (first > 0) {
                x.put(m, first - 1, 1).count(6).is(2);
            }
            if (first < 24) {
                x.put(m, first + 8, 1).count(6).is(first > 0 ? 3 : 2);
            }
        }
    }

    private static void putRefused() {
        Run x = new Run(2, "REFUSED if m is not 0..3 or k not 0..31");
        for (int m : NO_MAPS) {
            x.put(m, 0, 1).is(Run.REFUSED).put(m, 31, 1).is(Run.REFUSED);
        }
        for (int k : NO_KEYS) {
            x.put(0, k, 1).is(Run.REFUSED).put(3, k, 1).is(Run.REFUSED);
        }
        x.put(-1, 32, 1).is(Run.REFUSED).put(4, -1, 1).is(Run.REFUSED);
        x.count(6).is(0).count(9).is(0);
        x.put(0, 0, 1).is(0).put(0, 31, 1).is(0).put(3, 0, 1).is(0).put(3, 31, 1).is(0);
    }

    private static void removeOfEachKeyIsItsOwn() {
        for (int key = 0; key < 128; key++) {
            Run x = new Run(3, "KEY k of MAP m has no int any more");
            for (int k = 0; k < 128; k++) {
                x.put(k / 32, k % 32, k);
            }
            x.commit().remove(key / 32, key % 32).is(1).count(9).is(127).count(6).is(1).count(7).is(0);
            for (int k = 0; k < 128; k++) {
                x.get(k / 32, k % 32).is(k == key ? Run.NOTHING : k);
            }
            x.remove(key / 32, key % 32).is(0).commit().is(2);
            x.at(2, key / 32, key % 32).is(Run.NOTHING).at(1, key / 32, key % 32).is(key);
        }
    }

    private static void removeOfEachInt() {
        for (int v : INTS) {
            Run x = new Run(3, "KEY k of MAP m has no int any more");
            x.put(0, 0, v).remove(0, 0).is(1).get(0, 0).is(Run.NOTHING).count(9).is(0).remove(0, 0).is(0);
        }
    }

    private static void removeTouchesItsLeafAlone() {
        Run x = new Run(3, "and its LEAF is TOUCHED");
        for (int k = 0; k < 32; k++) {
            x.put(1, k, k);
        }
        x.commit();
        for (int k = 0; k < 32; k++) {
            x.remove(1, k).is(1).count(6).is(1 + k / 8).count(7).is(0);
        }
        x.commit().is(2).chunkIs(1, 2, 3, 1, 1, 1, 2);
    }

    private static void removeOfNone() {
        String sentence = "0, and nothing changes, if it has none";
        Twins.unchanged(3, sentence, x -> { }, x -> x.remove(0, 0), 0);
        Twins.unchanged(3, sentence, x -> x.commitOne(0, 1, 1), x -> x.remove(0, 0), 0);
        Twins.unchanged(3, sentence, x -> x.commitOne(0, 1, 1), x -> x.remove(3, 31), 0);
        Twins.unchanged(3, sentence, x -> x.commitOne(0, 1, 1).remove(0, 1).commit(), x -> x.remove(0, 1), 0);
        new Run(3, sentence).commitOne(0, 1, 1).remove(0, 0).is(0).count(6).is(0).commit().is(1);
    }

    private static void removeOfWhatIsNotCommitted() {
        Run x = new Run(3, "and its LEAF is TOUCHED");
        x.put(0, 31, 1).remove(0, 31).is(1).count(6).is(1).count(9).is(0).commit().is(1).count(6).is(0);
    }

    private static void removeRefused() {
        Run x = new Run(3, "REFUSED likewise");
        x.put(0, 0, 1).put(0, 31, 1).put(3, 0, 1).put(3, 31, 1).commit();
        for (int m : NO_MAPS) {
            x.remove(m, 0).is(Run.REFUSED).remove(m, 31).is(Run.REFUSED);
        }
        for (int k : NO_KEYS) {
            x.remove(0, k).is(Run.REFUSED).remove(3, k).is(Run.REFUSED);
        }
        x.remove(-1, 32).is(Run.REFUSED).remove(4, -1).is(Run.REFUSED);
        x.count(6).is(0).count(9).is(4);
        x.remove(0, 0).is(1).remove(0, 31).is(1).remove(3, 0).is(1).remove(3, 31).is(1);
    }

    private static void getOutOfRange() {
        Run x = new Run(4, "or a number is out of range");
        for (int k = 0; k < 128; k++) {
            x.put(k / 32, k % 32, 1);
        }
        for (int m : NO_MAPS) {
            x.get(m, 0).is(Run.GONE).get(m, 31).is(Run.GONE);
        }
        for (int k : NO_KEYS) {
            x.get(0, k).is(Run.GONE).get(3, k).is(Run.GONE).get(1, k).is(Run.GONE);
        }
        x.get(-1, 32).is(Run.GONE).get(4, -1).is(Run.GONE);
        x.get(0, 0).is(1).get(0, 31).is(1).get(3, 0).is(1).get(3, 31).is(1);
    }

    private static void getIsNow() {
        Run x = new Run(4, "What KEY k of MAP m has now");
        x.put(0, 31, Run.LEAST).get(0, 31).is(Run.LEAST).put(0, 31, Run.MOST).get(0, 31).is(Run.MOST);
        x.get(0, 30).is(Run.NOTHING).get(1, 31).is(Run.NOTHING);
        x.commit().put(0, 31, -1).get(0, 31).is(-1).remove(0, 31).get(0, 31).is(Run.NOTHING);
        x.rollback(1).get(0, 31).is(Run.MOST).rollback(0).get(0, 31).is(Run.NOTHING);
    }

    private static void atOutOfRange() {
        Run x = new Run(5, "or a number is out of range");
        for (int k = 0; k < 128; k++) {
            x.put(k / 32, k % 32, 1);
        }
        x.commit();
        for (int version = 0; version <= 1; version++) {
            for (int m : NO_MAPS) {
                x.at(version, m, 0).is(Run.GONE).at(version, m, 31).is(Run.GONE);
            }
            for (int k : NO_KEYS) {
                x.at(version, 0, k).is(Run.GONE).at(version, 3, k).is(Run.GONE);
            }
        }
        x.at(9, -1, 32).is(Run.GONE).at(-1, 4, -1).is(Run.GONE);
        x.at(1, 0, 0).is(1).at(1, 0, 31).is(1).at(1, 3, 0).is(1).at(1, 3, 31).is(1);
    }

    private static void atOfVersionsNotKept() {
        Run x = new Run(5, "GONE where the VERSION is not KEPT");
        x.commitOne(0, 0, 1).commitOne(0, 0, 2);
        for (int version : new int[] {0, -1, 3, Run.LEAST, Run.MOST}) {
            x.at(version, 0, 0).is(Run.GONE).at(version, 3, 31).is(Run.GONE);
        }
        x.hold(0).at(1, 0, 0).is(Run.GONE).at(2, 0, 0).is(2).chunk(0, 4).is(0);
        x.rollback(2).crash(0, 0).at(0, 0, 0).is(Run.NOTHING).at(2, 0, 0).is(Run.GONE);
    }

    private static void atOfTheLeastAndGreatestKept() {
        Run x = new Run(5, "What KEY k of MAP m had in a VERSION that is KEPT");
        x.hold(4).commitOne(1, 9, 1).commitOne(1, 9, 2).commitOne(1, 9, 3).commitOne(1, 9, 4);
        x.at(0, 1, 9).is(Run.NOTHING).at(1, 1, 9).is(1).at(3, 1, 9).is(3).at(4, 1, 9).is(4).at(5, 1, 9).is(Run.GONE);
        x.put(1, 9, 5).at(4, 1, 9).is(4).remove(1, 9).at(4, 1, 9).is(4).commit().is(5);
        x.at(5, 1, 9).is(Run.NOTHING).at(4, 1, 9).is(4).at(1, 1, 9).is(1).at(0, 1, 9).is(Run.GONE);
    }

    private static void atOfEachInt() {
        for (int v : INTS) {
            Run x = new Run(5, "What KEY k of MAP m had in a VERSION that is KEPT");
            x.put(3, 31, v).put(0, 0, v).commit().put(3, 31, 77).put(0, 0, 77).commit();
            x.at(1, 3, 31).is(v).at(1, 0, 0).is(v).at(1, 3, 30).is(Run.NOTHING).at(1, 0, 8).is(Run.NOTHING);
        }
    }

    private static void atOfTheBeginning() {
        Run x = new Run(5, "VERSION 0 has none as long as it is that of the beginning");
        x.put(0, 0, 1).at(0, 0, 0).is(Run.NOTHING).commit().at(0, 0, 0).is(Run.NOTHING).at(0, 3, 31).is(Run.NOTHING);
        x.count(8).is(3).rollback(0).is(2).at(0, 0, 0).is(Run.NOTHING).count(8).is(1).at(1, 0, 0).is(Run.GONE);
    }

    private static void nextFromAnyInt() {
        Run x = new Run(6, "The least KEY from k on (any int) that MAP m has now");
        x.put(0, 0, 1).put(0, 31, 1).put(1, 30, 1);
        x.next(0, Run.LEAST).is(0).next(0, -1).is(0).next(0, 0).is(0).next(0, 1).is(31).next(0, 31).is(31);
        x.next(0, 32).is(Run.NONE).next(0, Run.MOST).is(Run.NONE);
        x.next(1, Run.LEAST).is(30).next(1, 30).is(30).next(1, 31).is(Run.NONE);
        x.remove(0, 31).next(0, 1).is(Run.NONE).remove(0, 0).next(0, 0).is(Run.NONE);
    }

    private static void nextOfEachKey() {
        for (int key = 0; key < 128; key++) {
            Run x = new Run(6, "The least KEY from k on");
            x.put(key / 32, key % 32, 0);
            for (int k = -1; k <= 32; k++) {
                x.next(key / 32, k).is(k <= key % 32 ? key % 32 : Run.NONE);
            }
        }
    }

    private static void nextStaysInItsMap() {
        Run x = new Run(6, "NONE if there is none");
        x.next(0, 0).is(Run.NONE).next(3, 31).is(Run.NONE);
        x.put(1, 0, 1).put(1, 31, 1).put(3, 0, 1);
        x.next(0, 0).is(Run.NONE).next(0, 31).is(Run.NONE).next(0, 32).is(Run.NONE);
        x.next(2, Run.LEAST).is(Run.NONE).next(2, 31).is(Run.NONE).next(3, 1).is(Run.NONE);
        x.rollback(0).next(1, 0).is(Run.NONE);
    }

    private static void nextRefused() {
        Run x = new Run(6, "REFUSED if m is not 0..3");
        x.put(0, 0, 1).put(3, 31, 1);
        for (int m : NO_MAPS) {
            x.next(m, 0).is(Run.REFUSED).next(m, 32).is(Run.REFUSED).next(m, Run.LEAST).is(Run.REFUSED);
            x.next(m, Run.MOST).is(Run.REFUSED);
        }
        x.next(0, 0).is(0).next(3, 0).is(31);
    }
}
