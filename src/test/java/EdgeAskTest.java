/** The boundary cases of promises 15, 16 and 18: chunk, block, count. */
public final class EdgeAskTest {
    private static final int[] FAR = {Run.LEAST, Run.MOST};

    private EdgeAskTest() {
    }

    public static void main(String[] args) {
        chunkOfAnEmptyFile();
        chunkLeastAndGreatest();
        chunkOutOfRange();
        chunkOfTheGreatestNumber();
        chunkByIds();
        chunkDeadOrThere();
        chunkVersionAsWritten();
        blockLeastAndGreatest();
        blockOutOfRange();
        blockThatHoldsNothing();
        blockFreeOrNot();
        blockHoldsWhatWasWrittenLast();
        blockPending();
        blockOfABrokenChunk();
        countOutOfRange();
        countLeast();
        countGreatestFile();
        countGreatestMaps();
        countTouched();
        countNextId();
        countKept();
        Check.finish();
    }

    private static void chunkOfAnEmptyFile() {
        Run x = new Run(15, "REFUSED if there is none");
        for (int what = -1; what <= 6; what++) {
            x.chunk(0, what).is(Run.REFUSED).chunk(-1, what).is(Run.REFUSED).chunk(1, what).is(Run.REFUSED);
        }
        x.put(0, 0, 1).chunk(0, 0).is(Run.REFUSED).commit().chunk(0, 0).is(1).crash(0, 0).chunk(0, 0).is(Run.REFUSED);
    }

    private static void chunkLeastAndGreatest() {
        Run x = new Run(15, "what 0: its ID; 1: its first BLOCK; 2: how many BLOCKS; 3: PAGES; 4: LIVE PAGES; 5: VERSION");
        x.put(0, 0, 1).put(1, 0, 1).commit().commitOne(0, 0, 2).commitOne(0, 0, 3).rollback(3);
        x.chunkIs(0, 1, 0, 3, 5, 2, 1).chunkIs(1, 2, 3, 2, 3, 3, 2).chunkIs(2, 3, 5, 2, 3, 2, 3);
        x.chunkIs(3, 4, 7, 1, 1, 1, 3).chunk(4, 0).is(Run.REFUSED);
    }

    private static void chunkOutOfRange() {
        Run x = new Run(15, "REFUSED for others, or if there is none");
        x.commitOne(0, 0, 1).commitOne(0, 0, 2);
        for (int k = 0; k < 2; k++) {
            x.chunk(k, -1).is(Run.REFUSED).chunk(k, 6).is(Run.REFUSED).chunk(k, 0).is(k + 1).chunk(k, 5).is(k + 1);
            x.chunk(k, Run.LEAST).is(Run.REFUSED).chunk(k, Run.MOST).is(Run.REFUSED);
        }
        for (int what = -1; what <= 6; what++) {
            x.chunk(-1, what).is(Run.REFUSED).chunk(2, what).is(Run.REFUSED);
            x.chunk(Run.LEAST, what).is(Run.REFUSED).chunk(Run.MOST, what).is(Run.REFUSED);
        }
    }

    private static void chunkOfTheGreatestNumber() {
        Run x = new Run(15, "Of the k-th CHUNK (0 first, by IDS)").rollbackOften(0, 32).count(3).is(32);
        for (int k = 0; k < 32; k++) {
            x.chunkIs(k, k + 1, k, 1, 1, k == 31 ? 1 : 0, 0);
        }
        x.chunk(32, 0).is(Run.REFUSED).sync().chunk(0, 0).is(32).chunk(1, 0).is(Run.REFUSED);
    }

    private static void chunkByIds() {
        Run x = new Run(15, "0 first, by IDS").hold(0).commitOne(0, 0, 1).commitOne(1, 0, 1).commitOne(0, 0, 2).sync();
        x.commitOne(2, 0, 1).chunkIs(0, 2, 2).chunkIs(1, 3, 4).chunkIs(2, 4, 0).chunk(3, 0).is(Run.REFUSED);
        x.crash(2, 0).is(4).chunkIs(0, 2, 2).chunkIs(1, 3, 4).chunkIs(2, 4, 0).chunk(3, 0).is(Run.REFUSED);
    }

    private static void chunkDeadOrThere() {
        Run x = new Run(15, "that is there or DEAD").hold(0).commitOne(0, 0, 1).commitOne(0, 0, 2);
        x.chunkIs(0, 1, 0, 2, 3, 0, 1).chunkIs(1, 2, 2, 2, 3, 3, 2).count(3).is(2);
        x.sync().chunkIs(0, 2, 2, 2, 3, 3, 2).chunk(1, 0).is(Run.REFUSED).count(3).is(1);
    }

    private static void chunkVersionAsWritten() {
        Run x = new Run(15, "the VERSION of its META, as it was written").hold(4).commitOne(0, 0, 1).commitOne(0, 0, 2);
        x.rollback(1).commitOne(0, 0, 3).is(2).rollback(0).is(5);
        x.chunk(0, 5).is(1).chunk(1, 5).is(2).chunk(2, 5).is(1).chunk(3, 5).is(2).chunk(4, 5).is(0);
    }

    private static void blockLeastAndGreatest() {
        Run x = new Run(16, "Of BLOCK b what 0: FREE; 1: the ID; 2: which BLOCK of that it is; 3: PENDING");
        x.block(0, 0).is(1).block(31, 0).is(1).rollbackOften(0, 30).sync().is(30).rollbackOften(0, 1).block(0, 1).is(31);
        Run y = new Run(16, "Of BLOCK b what 0: FREE; 1: the ID; 2: which BLOCK of that it is; 3: PENDING");
        y.rollbackOften(0, 21).putEverywhere(1).commit().is(1);
        for (int i = 0; i < 11; i++) {
            y.block(21 + i, 0).is(0).block(21 + i, 1).is(22).block(21 + i, 2).is(i).block(21 + i, 3).is(1);
        }
        y.block(0, 0).is(0).block(0, 1).is(1).block(0, 2).is(0).block(0, 3).is(1);
    }

    private static void blockOutOfRange() {
        Run x = new Run(16, "REFUSED for others").rollbackOften(0, 32);
        for (int what = -1; what <= 4; what++) {
            x.block(-1, what).is(Run.REFUSED).block(32, what).is(Run.REFUSED);
            x.block(Run.LEAST, what).is(Run.REFUSED).block(Run.MOST, what).is(Run.REFUSED);
        }
        for (int b : new int[] {0, 31}) {
            x.block(b, -1).is(Run.REFUSED).block(b, 4).is(Run.REFUSED).block(b, 1).is(b + 1).block(b, 3).is(1);
            x.block(b, Run.LEAST).is(Run.REFUSED).block(b, Run.MOST).is(Run.REFUSED);
        }
    }

    private static void blockThatHoldsNothing() {
        Run x = new Run(16, "0 if nothing");
        x.block(0, 1).is(0).block(31, 1).is(0).commitOne(0, 0, 1).block(1, 1).is(1).block(2, 1).is(0);
        x.crash(1, 0).block(0, 1).is(1).block(1, 1).is(0);
    }

    private static void blockFreeOrNot() {
        Run x = new Run(16, "1 if it is FREE, else 0").hold(0).commitOne(0, 0, 1).blocksFree(0, 0, 1, 1);
        x.commitOne(0, 0, 2).blocksFree(0, 0, 0, 0, 1).sync().blocksFree(1, 1, 0, 0, 1).crash(0, 0);
        x.blocksFree(1, 1, 0, 0, 1).commitMeta().blocksFree(0, 1, 0, 0, 1);
    }

    private static void blockHoldsWhatWasWrittenLast() {
        Run x = new Run(16, "A BLOCK holds what was written to it last").hold(0).commitOne(0, 0, 1).commitOne(0, 0, 2);
        x.sync().blocksHold(1, 1, 2, 2, 0).block(1, 2).is(1).rollback(2).is(3).blocksHold(3, 1, 2, 2, 0);
        x.block(0, 2).is(0).block(1, 2).is(1).commitMeta().is(3).blocksHold(3, 4, 2, 2, 0).block(1, 2).is(0);
    }

    private static void blockPending() {
        Run x = new Run(16, "1 if a WRITE to it is PENDING, else 0").hold(0).commitOne(0, 0, 1).commitOne(0, 0, 2);
        x.block(0, 3).is(1).block(1, 3).is(1).block(3, 3).is(1).block(4, 3).is(0).sync().block(0, 3).is(0);
        x.block(3, 3).is(0).commitOne(0, 0, 3).block(0, 3).is(1).block(1, 3).is(1).block(2, 3).is(0).count(5).is(2);
        x.crash(0, 1).block(0, 3).is(0).block(1, 3).is(0).count(5).is(0);
    }

    private static void blockOfABrokenChunk() {
        Run x = new Run(16, "the ID of the CHUNK that it holds").hold(0).commitOne(0, 0, 1).commitOne(0, 0, 2).sync();
        x.commitOne(0, 0, 3).crash(0, 2).is(2).blocksHold(1, 3, 2, 2, 0).block(1, 2).is(1).block(1, 0).is(1);
    }

    private static void countOutOfRange() {
        Run x = new Run(18, "REFUSED for others");
        x.count(-1).is(Run.REFUSED).count(10).is(Run.REFUSED);
        for (int what : FAR) {
            x.count(what).is(Run.REFUSED);
        }
        x.count(0).is(0).count(9).is(0).commitOne(0, 0, 1).count(-1).is(Run.REFUSED).count(10).is(Run.REFUSED);
        x.count(0).is(1).count(9).is(1);
    }

    private static void countLeast() {
        new Run(18, "What 0 to 9").countsAre(0, 1, 1, 0, 32, 0, 0, 0, 0, 0);
        new Run(18, "What 0 to 9").put(0, 0, 0).countsAre(0, 1, 1, 0, 32, 0, 1, 0, 0, 1);
        new Run(18, "What 0 to 9").rollback(0).countsAre(0, 1, 2, 1, 31, 1, 0, 0, 1, 0);
    }

    private static void countGreatestFile() {
        Run x = new Run(18, "CHUNKS that are there or DEAD; FREE BLOCKS; PENDING WRITES");
        x.rollbackOften(0, 32).countsAre(0, 1, 33, 32, 0, 32, 0, 0, 1, 0).sync().is(32);
        x.countsAre(0, 1, 33, 1, 31, 0, 0, 0, 1, 0);
        Run y = new Run(18, "LIVE PAGES").pin(0);
        for (int v = 1; v <= 2; v++) {
            y.putEverywhere(v).commit().pin(v);
        }
        for (int v = 3; v <= 7; v++) {
            y.commitOne(0, 0, v).pin(v);
        }
        y.countsAre(7, 8, 8, 7, 0, 32, 0, 0, 57, 16).sync().is(32).countsAre(7, 8, 8, 7, 0, 0, 0, 0, 57, 16);
    }

    private static void countGreatestMaps() {
        Run x = new Run(18, "ints in all MAPS now");
        for (int k = 0; k < 128; k++) {
            x.put(k / 32, k % 32, 0).count(9).is(k + 1);
        }
        x.put(0, 0, 1).count(9).is(128).count(6).is(16).remove(3, 31).count(9).is(127).rollback(0).count(9).is(0);
    }

    private static void countTouched() {
        Run x = new Run(18, "LEAVES TOUCHED; MAPS TOUCHED (by compact)").hold(0);
        for (int leaf = 0; leaf < 16; leaf++) {
            x.put(leaf / 4, leaf % 4 * 8 + 7, 1).count(6).is(leaf + 1).count(7).is(0);
        }
        x.commit().count(6).is(0).rollback(1).compact(61).is(20).count(6).is(16).count(7).is(4).commit().count(7).is(0);
        Run y = new Run(18, "LEAVES TOUCHED").put(0, 0, 1).remove(0, 0).count(6).is(1).count(9).is(0);
        y.remove(0, 8).count(6).is(1);
    }

    private static void countNextId() {
        Run x = new Run(18, "the next ID").commit().count(2).is(1).commitOne(0, 0, 1).count(2).is(2).sync();
        x.count(2).is(2).rollback(0).is(2).count(2).is(3).rollback(5).is(Run.NONE).count(2).is(3);
    }

    private static void countKept() {
        Run x = new Run(18, "how many are KEPT").hold(4);
        for (int v = 1; v <= 6; v++) {
            x.commitOne(0, 0, v).count(1).is(Math.min(v, 4) + 1).count(0).is(v);
        }
        x.hold(0).count(1).is(1).count(0).is(6);
    }
}
