/** The boundary cases of promises 9, 10, 11 and 17: pin, unpin, hold, kept, with what is kept and dropped. */
public final class EdgeKeepTest {
    private static final int[] FAR = {Run.LEAST, Run.MOST};

    private EdgeKeepTest() {
    }

    public static void main(String[] args) {
        pinUpToNine();
        pinOfEachKindOfVersion();
        pinOfVersionsNotKept();
        pinOfADroppedOneIsNone();
        pinnedOnesStay();
        pinDropsNothing();
        unpinDownToNone();
        unpinOfVersionsNotPinned();
        unpinOfTheLatest();
        unpinOfAHeldOne();
        unpinDropsItOrAnother();
        holdLeastAndGreatest();
        holdIsOneAtFirst();
        holdAnswersWhatItWas();
        holdOutOfRange();
        holdDropsTheLeast();
        holdLeavesPinnedOnes();
        holdBringsNothingBack();
        holdOutlivesRollbackAndCrash();
        droppedByCommit();
        firstVersionIsKeptLikeOthers();
        livePagesOfKeptVersions();
        keptLeastAndGreatest();
        keptByNumbers();
        Check.finish();
    }

    /** Versions 1 to n, each with an int of its own. */
    private static Run versions(int promise, String sentence, int hold, int n) {
        Run x = new Run(promise, sentence).hold(hold);
        for (int v = 1; v <= n; v++) {
            x.commitOne(0, 0, v).is(v);
        }
        return x;
    }

    private static void pinUpToNine() {
        Run x = new Run(9, "is PINNED once more: how often it is; FULL if it is nine times");
        for (int i = 1; i <= 9; i++) {
            x.pin(0).is(i);
        }
        x.pin(0).is(Run.FULL).pin(0).is(Run.FULL).unpin(0).is(8).pin(0).is(9).pin(0).is(Run.FULL);
        Twins.unchanged(9, "A call that is refused changes nothing", y -> y.pinOften(0, 9), y -> y.pin(0), Run.FULL);
        Twins.unchanged(9, "A call that is refused changes nothing",
            y -> y.commitOne(0, 0, 1).pinOften(1, 9).commitOne(0, 0, 2).pin(2), y -> y.pin(1), Run.FULL);
    }

    private static void pinOfEachKindOfVersion() {
        Run x = versions(9, "A VERSION that is KEPT is PINNED once more", 1, 2);
        x.pin(1).is(1).pin(2).is(1).pin(2).is(2).pin(1).is(2).commitOne(0, 0, 3).pin(3).is(1).pin(1).is(3);
        x.pinOften(3, 8).is(9).pin(3).is(Run.FULL).pin(2).is(3).keptAre(1, 2, 3);
    }

    private static void pinOfVersionsNotKept() {
        Run x = versions(9, "NONE if it is not KEPT", 1, 2);
        x.pin(0).is(Run.NONE).pin(-1).is(Run.NONE).pin(3).is(Run.NONE);
        for (int version : FAR) {
            x.pin(version).is(Run.NONE);
        }
        x.commitOne(0, 0, 3).is(3).keptAre(2, 3).pin(3).is(1);
    }

    private static void pinOfADroppedOneIsNone() {
        Run x = new Run(9, "NONE if it is not KEPT; FULL if it is nine times");
        x.commitOne(0, 0, 1).pinOften(1, 9).rollback(0).pin(1).is(Run.NONE).unpin(1).is(Run.NONE);
        x.commitOne(0, 0, 2).is(1).pin(1).is(1);
    }

    private static void pinnedOnesStay() {
        Run x = versions(9, "KEPT are the LATEST VERSION, those that are PINNED", 0, 1);
        x.pin(1).commitOne(0, 0, 2).commitOne(0, 0, 3).pin(3).commitOne(0, 0, 4).keptAre(1, 3, 4);
        x.at(1, 0, 0).is(1).at(2, 0, 0).is(Run.GONE).at(3, 0, 0).is(3).hold(0).keptAre(1, 3, 4);
    }

    private static void pinDropsNothing() {
        Run x = versions(9, "A VERSION that is KEPT is PINNED once more", 4, 4);
        x.pin(2).keptAre(0, 1, 2, 3, 4).pin(4).keptAre(0, 1, 2, 3, 4).commitOne(0, 0, 5).keptAre(0, 1, 2, 3, 4, 5);
        x.commitOne(0, 0, 6).keptAre(0, 1, 2, 3, 4, 5, 6).commitOne(0, 0, 7).keptAre(1, 2, 3, 4, 5, 6, 7);
    }

    private static void unpinDownToNone() {
        Run x = new Run(10, "A VERSION is PINNED once less: how often it is").pinOften(0, 9).is(9);
        for (int i = 8; i >= 0; i--) {
            x.unpin(0).is(i);
        }
        x.unpin(0).is(Run.NONE).pin(0).is(1).unpin(0).is(0);
    }

    private static void unpinOfVersionsNotPinned() {
        Run x = versions(10, "NONE if it is not PINNED", 1, 2);
        for (int version : new int[] {0, 1, 2, 3, -1, Run.LEAST, Run.MOST}) {
            x.unpin(version).is(Run.NONE);
        }
        x.pin(1).unpin(2).is(Run.NONE).unpin(1).is(0).unpin(1).is(Run.NONE);
        String sentence = "A call that is refused changes nothing";
        Twins.unchanged(10, sentence, y -> y.commitOne(0, 0, 1).pin(1), y -> y.unpin(0), Run.NONE);
        Twins.unchanged(10, sentence, y -> y.commitOne(0, 0, 1).pin(0), y -> y.unpin(1), Run.NONE);
        Twins.unchanged(10, sentence, y -> y.commitOne(0, 0, 1).pin(1).unpin(1), y -> y.unpin(1), Run.NONE);
        Run z = new Run(10, "no other VERSION is KEPT, nothing is PINNED").pin(0).crash(0, 0);
        z.unpin(0).is(Run.NONE);
    }

    private static void unpinOfTheLatest() {
        Run x = versions(10, "KEPT are the LATEST VERSION", 0, 2);
        x.pin(2).unpin(2).is(0).keptAre(2).at(2, 0, 0).is(2).get(0, 0).is(2).count(8).is(3);
    }

    private static void unpinOfAHeldOne() {
        Run x = versions(10, "the HOLD greatest numbers below the LATEST one", 1, 2);
        x.pin(1).unpin(1).is(0).keptAre(1, 2).at(1, 0, 0).is(1);
    }

    private static void unpinDropsItOrAnother() {
        Run x = versions(10, "Whenever unpin makes one not KEPT it is dropped", 0, 1);
        x.pin(1).pin(1).commitOne(0, 0, 2).unpin(1).is(1).keptAre(1, 2).unpin(1).is(0).keptAre(2);
        x.chunk(0, 4).is(0).at(1, 0, 0).is(Run.GONE).hold(4).keptAre(2);
        Run y = versions(10, "Whenever unpin makes one not KEPT it is dropped", 1, 1);
        y.pin(1).commitOne(0, 0, 2).keptAre(0, 1, 2).unpin(1).is(0).keptAre(1, 2);
        Run z = versions(10, "Whenever unpin makes one not KEPT it is dropped", 1, 1);
        z.pin(1).commitOne(0, 0, 2).commitOne(0, 0, 3).keptAre(1, 2, 3).unpin(1).is(0).keptAre(2, 3);
    }

    private static void holdLeastAndGreatest() {
        for (int n = 0; n <= 4; n++) {
            Run x = versions(11, "the HOLD (0..4, at first 1) greatest numbers below the LATEST one", n, 6);
            x.count(1).is(n + 1);
            for (int i = 0; i <= n; i++) {
                x.kept(i).is(6 - n + i).at(6 - n + i, 0, 0).is(6 - n + i);
            }
            x.at(5 - n, 0, 0).is(Run.GONE).hold(n).is(n);
        }
    }

    private static void holdIsOneAtFirst() {
        Run x = new Run(11, "at first 1");
        x.commitOne(0, 0, 1).keptAre(0, 1).commitOne(0, 0, 2).keptAre(1, 2).hold(0).is(1).keptAre(2);
    }

    private static void holdAnswersWhatItWas() {
        Run x = new Run(11, "The HOLD is n: what it was");
        x.hold(4).is(1).hold(4).is(4).hold(0).is(4).hold(0).is(0).hold(3).is(0).hold(2).is(3).hold(1).is(2);
    }

    private static void holdOutOfRange() {
        Run x = versions(11, "REFUSED if n is not 0..4", 3, 4);
        for (int n : new int[] {-1, 5, Run.LEAST, Run.MOST}) {
            x.hold(n).is(Run.REFUSED).keptAre(1, 2, 3, 4);
        }
        x.hold(4).is(3).hold(0).is(4);
    }

    private static void holdDropsTheLeast() {
        Run x = versions(11, "Whenever hold makes one not KEPT it is dropped", 4, 4);
        x.keptAre(0, 1, 2, 3, 4).hold(3).is(4).keptAre(1, 2, 3, 4).hold(1).is(3).keptAre(3, 4).hold(0).keptAre(4);
        x.at(3, 0, 0).is(Run.GONE).at(4, 0, 0).is(4).count(8).is(3).chunk(2, 4).is(0).chunk(3, 4).is(3);
    }

    private static void holdLeavesPinnedOnes() {
        Run x = versions(11, "those that are PINNED, and of the others", 4, 4);
        x.pin(0).pin(3).hold(1).is(4).keptAre(0, 2, 3, 4).hold(0).is(1).keptAre(0, 3, 4);
    }

    private static void holdBringsNothingBack() {
        Run x = versions(11, "of the others that were so, and have not been dropped", 4, 4);
        x.hold(0).hold(4).is(0).keptAre(4).commitOne(0, 0, 5).keptAre(4, 5).at(3, 0, 0).is(Run.GONE);
        x.rollback(3).is(Run.NONE).pin(3).is(Run.NONE);
    }

    private static void holdOutlivesRollbackAndCrash() {
        Run x = versions(11, "The HOLD stays", 3, 3);
        x.rollback(2).hold(3).is(3).crash(0, 0).is(0).hold(3).is(3).commitOne(0, 0, 1).commitOne(0, 0, 2);
        x.commitOne(0, 0, 3).keptAre(0, 1, 2, 3);
        new Run(11, "The HOLD stays").hold(0).crash(0, 0).hold(1).is(0);
    }

    private static void droppedByCommit() {
        Run x = versions(11, "Whenever a commit makes one not KEPT it is dropped", 1, 2);
        x.keptAre(1, 2).commitOne(0, 0, 3).keptAre(2, 3).at(1, 0, 0).is(Run.GONE).chunk(0, 4).is(0);
        x.rollback(2).keptAre(2).commitOne(0, 0, 4).is(3).keptAre(2, 3);
    }

    private static void firstVersionIsKeptLikeOthers() {
        Run x = versions(11, "the LATEST one is 0 at first", 1, 1);
        x.keptAre(0, 1).at(0, 0, 0).is(Run.NOTHING).pin(0).is(1).commitOne(0, 0, 2).commitOne(0, 0, 3).keptAre(0, 2, 3);
        x.unpin(0).is(0).keptAre(2, 3).at(0, 0, 0).is(Run.GONE).rollback(0).is(Run.NONE);
        Run y = versions(11, "The first VERSION 0 has no CHUNK", 0, 0);
        y.pin(0).commitOne(0, 0, 1).keptAre(0, 1).count(3).is(1).count(8).is(3).unpin(0).is(0).count(8).is(3).keptAre(1);
    }

    private static void livePagesOfKeptVersions() {
        Run x = new Run(11, "A PAGE is LIVE if the META of a KEPT VERSION is it, or leads to it");
        x.put(0, 0, 1).put(1, 0, 1).commit().chunk(0, 4).is(5).commitOne(0, 0, 2).chunk(0, 4).is(5).count(8).is(8);
        x.commitOne(0, 0, 3).chunk(0, 4).is(2).chunk(1, 4).is(3).count(8).is(8).hold(0).chunk(0, 4).is(2);
        x.chunk(1, 4).is(0).count(8).is(5).remove(1, 0).commit().is(4).chunk(0, 4).is(0).count(8).is(3);
    }

    private static void keptLeastAndGreatest() {
        Run x = versions(17, "REFUSED if there is none", 3, 3);
        x.kept(0).is(0).kept(3).is(3).kept(4).is(Run.REFUSED).kept(-1).is(Run.REFUSED);
        for (int k : FAR) {
            x.kept(k).is(Run.REFUSED);
        }
        Run y = new Run(17, "The k-th KEPT VERSION");
        y.pin(0);
        for (int v = 1; v <= 32; v++) {
            y.commitMeta().is(v).pin(v);
        }
        y.count(1).is(33).count(4).is(0);
        for (int k = 0; k <= 32; k++) {
            y.kept(k).is(k).at(k, 0, 0).is(Run.NOTHING);
        }
        y.kept(33).is(Run.REFUSED).kept(-1).is(Run.REFUSED);
        new Run(17, "REFUSED if there is none").kept(0).is(0).kept(1).is(Run.REFUSED).kept(-1).is(Run.REFUSED);
    }

    private static void keptByNumbers() {
        Run x = versions(17, "0 first, by numbers", 4, 2);
        x.rollback(1).keptAre(0, 1).rollback(0).keptAre(0).commitOne(0, 0, 1).pin(1).commitOne(0, 0, 2).hold(0);
        x.keptAre(1, 2).rollback(1).keptAre(1).commitOne(0, 0, 2).commitOne(0, 0, 3).keptAre(1, 3).crash(0, 0);
        x.keptAre(0);
    }
}
