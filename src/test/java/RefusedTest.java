/**
 * "A call that is refused (by one of the codes below 0) changes nothing; what is named first is
 * tested first.": every call with wrong numbers in states of several kinds; and calls that only ask.
 */
public final class RefusedTest {
    private static final String SENTENCE = "A call that is refused (by one of the codes below 0) changes nothing";
    private static final int[] FAR = {Run.LEAST, Run.MOST};
    private static final int[] NO_MAPS = {-1, 4, Run.LEAST, Run.MOST};
    private static final int[] NO_KEYS = {-1, 32, Run.LEAST, Run.MOST};
    /** No run of this test comes to so many versions, nor to those below 0. */
    private static final int[] NO_VERSIONS = {-1, 99, Run.LEAST, Run.MOST};

    private static final Twins.Steps[] STATES = {
        x -> { }, RefusedTest::busy, RefusedTest::full, RefusedTest::broken};

    private RefusedTest() {
    }

    public static void main(String[] args) {
        theStatesAreWhatTheyShouldBe();
        for (Twins.Steps state : STATES) {
            putAndRemove(state);
            getAtAndNext(state);
            rollbackPinAndUnpin(state);
            holdAndCompact(state);
            crash(state);
            chunkAndBlock(state);
            keptAndCount(state);
            askingChangesNothing(state);
        }
        whatIsNamedFirst();
        Check.finish();
    }

    /** Pinned and held versions, live, dead and gone chunks, pending writes, touched leaves and maps. */
    private static void busy(Run x) {
        x.hold(0).put(0, 0, 1).put(1, 31, 2).commit().pinOften(1, 2).put(3, 0, 3).put(3, 8, 4).commit().pin(2);
        x.remove(3, 8).commit().commitOne(0, 0, 5).commitOne(0, 0, 6).sync().hold(1).commitOne(0, 0, 7);
        x.commitOne(0, 0, 8).pin(7).compact(64).put(3, 16, 9).remove(1, 31);
    }

    /** No block is free, most of them those of dead chunks, and a leaf is touched. */
    private static void full(Run x) {
        x.commitOne(0, 0, 1).pin(1).commitOne(0, 0, 2).rollbackOften(2, 28).put(1, 1, 1);
    }

    /** A crash has left a chunk that is not whole, but has live pages, and more has come since. */
    private static void broken(Run x) {
        x.hold(3).put(0, 0, 1).put(1, 0, 2).commit().commitOne(1, 0, 3).crash(1, 12).pin(2).commitOne(0, 0, 4);
        x.put(2, 2, 2);
    }

    private static void theStatesAreWhatTheyShouldBe() {
        Run busy = new Run(18, "the state that is used here");
        busy(busy);
        busy.keptAre(1, 2, 6, 7).countsAre(7, 4, 8, 6, 20, 4, 2, 1, 16, 3).chunkIs(3, 5, 8, 2, 3, 0);
        Run full = new Run(18, "the state that is used here");
        full(full);
        full.keptAre(0, 1, 2).countsAre(2, 3, 31, 30, 0, 32, 1, 0, 6, 2);
        Run broken = new Run(18, "the state that is used here");
        broken(broken);
        broken.keptAre(2, 3).countsAre(3, 2, 4, 3, 25, 2, 1, 0, 8, 3).blocksHold(1, 0, 0, 2, 2, 3, 3);
    }

    private static void putAndRemove(Twins.Steps state) {
        for (int m : NO_MAPS) {
            for (int k : new int[] {0, 31}) {
                Twins.unchanged(2, SENTENCE, state, x -> x.put(m, k, 77), Run.REFUSED);
                Twins.unchanged(3, SENTENCE, state, x -> x.remove(m, k), Run.REFUSED);
            }
        }
        for (int k : NO_KEYS) {
            for (int m : new int[] {0, 1, 3}) {
                Twins.unchanged(2, SENTENCE, state, x -> x.put(m, k, 77), Run.REFUSED);
                Twins.unchanged(3, SENTENCE, state, x -> x.remove(m, k), Run.REFUSED);
            }
        }
    }

    private static void getAtAndNext(Twins.Steps state) {
        for (int m : NO_MAPS) {
            Twins.unchanged(4, SENTENCE, state, x -> x.get(m, 0), Run.GONE);
            Twins.unchanged(5, SENTENCE, state, x -> x.at(0, m, 0), Run.GONE);
            Twins.unchanged(6, SENTENCE, state, x -> x.next(m, 0), Run.REFUSED);
        }
        for (int k : NO_KEYS) {
            Twins.unchanged(4, SENTENCE, state, x -> x.get(0, k), Run.GONE);
            Twins.unchanged(5, SENTENCE, state, x -> x.at(0, 0, k), Run.GONE);
        }
        for (int version : NO_VERSIONS) {
            Twins.unchanged(5, SENTENCE, state, x -> x.at(version, 0, 0), Run.GONE);
        }
        Twins.unchanged(6, SENTENCE, state, x -> x.next(0, 32), Run.NONE);
    }

    private static void rollbackPinAndUnpin(Twins.Steps state) {
        for (int version : NO_VERSIONS) {
            Twins.unchanged(8, SENTENCE, state, x -> x.rollback(version), Run.NONE);
            Twins.unchanged(9, SENTENCE, state, x -> x.pin(version), Run.NONE);
            Twins.unchanged(10, SENTENCE, state, x -> x.unpin(version), Run.NONE);
        }
    }

    private static void holdAndCompact(Twins.Steps state) {
        for (int n : new int[] {-1, 5, Run.LEAST, Run.MOST}) {
            Twins.unchanged(11, SENTENCE, state, x -> x.hold(n), Run.REFUSED);
        }
        for (int n : new int[] {0, -1, 65, Run.LEAST, Run.MOST}) {
            Twins.unchanged(13, SENTENCE, state, x -> x.compact(n), Run.REFUSED);
        }
        Twins.unchanged(13, SENTENCE, state, x -> x.compact(1), Run.NONE);
    }

    private static void crash(Twins.Steps state) {
        for (int k : new int[] {-1, 33, Run.LEAST, Run.MOST}) {
            Twins.unchanged(14, SENTENCE, state, x -> x.crash(k, 0), Run.REFUSED);
            Twins.unchanged(14, SENTENCE, state, x -> x.crash(k, 65535), Run.REFUSED);
        }
        Twins.unchanged(14, SENTENCE, state, x -> x.crash((int) x.count(5).answer() + 1, 0), Run.REFUSED);
        for (int mask : new int[] {-1, 65536, Run.LEAST, Run.MOST}) {
            Twins.unchanged(14, SENTENCE, state, x -> x.crash(0, mask), Run.REFUSED);
            Twins.unchanged(14, SENTENCE, state, x -> x.crash((int) x.count(5).answer(), mask), Run.REFUSED);
        }
    }

    private static void chunkAndBlock(Twins.Steps state) {
        for (int k : new int[] {-1, 33, Run.LEAST, Run.MOST}) {
            Twins.unchanged(15, SENTENCE, state, x -> x.chunk(k, 0), Run.REFUSED);
            Twins.unchanged(16, SENTENCE, state, x -> x.block(k, 0), Run.REFUSED);
        }
        for (int what : new int[] {-1, 6, Run.LEAST, Run.MOST}) {
            Twins.unchanged(15, SENTENCE, state, x -> x.chunk(0, what), Run.REFUSED);
            Twins.unchanged(16, SENTENCE, state, x -> x.block(0, what), Run.REFUSED);
        }
        Twins.unchanged(15, SENTENCE, state, x -> x.chunk((int) x.count(3).answer(), 0), Run.REFUSED);
        Twins.unchanged(16, SENTENCE, state, x -> x.block(32, 0), Run.REFUSED);
        Twins.unchanged(16, SENTENCE, state, x -> x.block(0, 4), Run.REFUSED);
    }

    private static void keptAndCount(Twins.Steps state) {
        for (int k : new int[] {-1, 34, Run.LEAST, Run.MOST}) {
            Twins.unchanged(17, SENTENCE, state, x -> x.kept(k), Run.REFUSED);
        }
        Twins.unchanged(17, SENTENCE, state, x -> x.kept((int) x.count(1).answer()), Run.REFUSED);
        for (int what : new int[] {-1, 10, Run.LEAST, Run.MOST}) {
            Twins.unchanged(18, SENTENCE, state, x -> x.count(what), Run.REFUSED);
        }
    }

    private static void askingChangesNothing(Twins.Steps state) {
        Twins.unchanged(4, "What KEY k of MAP m has now", state, x -> x.get(0, 0));
        Twins.unchanged(5, "What KEY k of MAP m had", state, x -> x.at((int) x.kept(0).answer(), 0, 0));
        Twins.unchanged(6, "The least KEY from k on", state, x -> x.next(0, 0));
        Twins.unchanged(17, "The k-th KEPT VERSION", state, x -> x.kept(0));
        for (int i = 0; i < 10; i++) {
            int what = i;
            Twins.unchanged(15, "Of the k-th CHUNK", state, x -> x.chunk(0, what));
            Twins.unchanged(16, "Of BLOCK b", state, x -> x.block(0, what));
            Twins.unchanged(18, "What 0 to 9", state, x -> x.count(what));
        }
    }

    private static void whatIsNamedFirst() {
        String sentence = "what is named first is tested first";
        Run x = new Run(8, sentence);
        full(x);
        x.count(4).is(0);
        for (int version : NO_VERSIONS) {
            x.rollback(version).is(Run.NONE);
        }
        x.rollback(0).is(Run.FULL).rollback(1).is(Run.FULL).rollback(2).is(Run.FULL).commit().is(Run.FULL);
        for (int far : FAR) {
            new Run(13, sentence).compact(far).is(Run.REFUSED);
            new Run(6, sentence).next(far, far).is(Run.REFUSED);
            new Run(14, sentence).crash(far, far).is(Run.REFUSED);
            new Run(5, sentence).at(far, far, far).is(Run.GONE);
        }
        new Run(9, sentence).commitOne(0, 0, 1).pinOften(1, 9).pin(1).is(Run.FULL).rollback(0).pin(1).is(Run.NONE);
        new Run(7, sentence).rollbackOften(0, 32).commit().is(0);
    }
}
