/** The boundary cases of promises 7, 8 and 12: commit, rollback, sync, with the rows of free blocks. */
public final class EdgeCommitTest {
    private EdgeCommitTest() {
    }

    public static void main(String[] args) {
        commitOfNothing();
        commitOfNothingInAFullFile();
        commitIsTheNextVersion();
        commitLeavesNothingTouched();
        leastChunk();
        chunkOfARootAndAMeta();
        eachNumberOfPages();
        greatestChunk();
        emptyLeavesHaveNoPage();
        emptyMapsHaveNoRoot();
        mapsThatAreNotTouched();
        firstRowIsTheLowest();
        firstRowThatIsLongEnough();
        rowAtTheEnd();
        rowAtTheBeginning();
        rowsDoNotGoRound();
        deadBlocksAreNotFree();
        commitFull();
        commitFullChangesNothing();
        rollbackToTheLeastAndTheGreatest();
        rollbackDropsThoseAbove();
        rollbackKeepsThoseBelow();
        rollbackKeepsItsPins();
        rollbackForgetsTouched();
        rollbackWritesAMetaAlone();
        rollbackToTheBeginning();
        rollbackToZeroOnceMore();
        rollbackOfVersionsNotKept();
        rollbackFull();
        rollbackOnTheLastFreeBlock();
        syncOfNothing();
        syncOfAllBlocks();
        syncEndsPending();
        syncFreesDeadChunks();
        syncLeavesWhatIsThere();
        Check.finish();
    }

    private static void commitOfNothing() {
        String sentence = "as it was if nothing is TOUCHED";
        Twins.unchanged(7, sentence, x -> { }, x -> x.commit(), 0);
        Twins.unchanged(7, sentence, x -> x.commitOne(1, 1, 1), x -> x.commit(), 1);
        Twins.unchanged(7, sentence, x -> x.commitOne(1, 1, 1).commitOne(1, 1, 2).put(2, 2, 2).rollback(1),
            x -> x.commit(), 1);
        Twins.unchanged(7, sentence, x -> x.commitOne(1, 1, 1).put(2, 2, 2).crash(2, 0), x -> x.commit(), 1);
        Twins.unchanged(7, sentence, x -> x.hold(0).pin(0).is(1).commitOne(1, 1, 1), x -> x.commit(), 1);
    }

    private static void commitOfNothingInAFullFile() {
        Run x = new Run(7, "as it was if nothing is TOUCHED");
        x.rollbackOften(0, 32).count(4).is(0).commit().is(0).put(0, 0, 1).commit().is(Run.FULL);
    }

    private static void commitIsTheNextVersion() {
        Run x = new Run(7, "a META, with the next VERSION, LATEST + 1, which is the LATEST one then");
        x.commitOne(0, 0, 1).is(1).count(0).is(1).commitOne(0, 0, 2).is(2).count(0).is(2).chunk(1, 5).is(2);
        x.rollback(1).commitOne(0, 0, 3).is(2).count(0).is(2).chunk(3, 5).is(2);
        x.rollback(1).crash(0, 0).is(0).commitOne(0, 0, 4).is(1);
    }

    private static void commitLeavesNothingTouched() {
        Run x = new Run(7, "Nothing is TOUCHED then");
        x.hold(0).putEverywhere(1).count(6).is(16).commit().count(6).is(0).commit().is(1);
        x.rollback(1).compact(64).is(20).count(6).is(16).count(7).is(4).commit().is(2).count(6).is(0).count(7).is(0);
        x.commit().is(2);
    }

    private static void leastChunk() {
        Run x = new Run(7, "then a META");
        x.put(0, 0, 1).remove(0, 0).commit().is(1).chunkIs(0, 1, 0, 1, 1, 1, 1).count(4).is(31).count(8).is(1);
        x.block(0, 1).is(1).block(1, 1).is(0).at(1, 0, 0).is(Run.NOTHING).crash(1, 0).is(1).count(9).is(0);
    }

    private static void chunkOfARootAndAMeta() {
        Run x = new Run(7, "one for each two of its PAGES");
        x.put(0, 0, 1).put(0, 8, 2).commit().remove(0, 8).commit().is(2).chunkIs(1, 2, 2, 1, 2, 2, 2);
        x.at(2, 0, 0).is(1).at(2, 0, 8).is(Run.NOTHING).count(4).is(29);
    }

    private static void eachNumberOfPages() {
        for (int leaves = 1; leaves <= 16; leaves++) {
            Run x = new Run(7, "one for each two of its PAGES (the last one for one, perhaps)");
            for (int leaf = 0; leaf < leaves; leaf++) {
                x.put(leaf / 4, leaf % 4 * 8 + 7, leaf);
            }
            int pages = leaves + (leaves + 3) / 4 + 1;
            int blocks = pages / 2 + pages % 2;
            x.commit().is(1).chunkIs(0, 1, 0, blocks, pages, pages, 1);
            x.count(4).is(32 - blocks).count(5).is(blocks).count(8).is(pages);
            x.block(blocks - 1, 1).is(1).block(blocks - 1, 2).is(blocks - 1).block(blocks, 1).is(0).sync().is(blocks);
        }
    }

    private static void greatestChunk() {
        Run x = new Run(7, "for each MAP that is TOUCHED, or has a LEAF that is, by numbers");
        x.putEverywhere(1).commit().is(1).chunkIs(0, 1, 0, 11, 21, 21, 1);
        x.putEverywhere(2).commit().is(2).chunkIs(1, 2, 11, 11, 21, 21, 2).count(4).is(10).count(8).is(42);
    }

    private static void emptyLeavesHaveNoPage() {
        Run x = new Run(7, "its TOUCHED LEAVES that have a KEY");
        x.put(1, 0, 1).put(1, 31, 2).commit().is(1).chunk(0, 3).is(4);
        x.remove(1, 31).put(1, 8, 3).put(1, 16, 4).remove(1, 16).commit().is(2).chunk(1, 3).is(3);
        x.at(2, 1, 31).is(Run.NOTHING).at(2, 1, 16).is(Run.NOTHING).at(2, 1, 8).is(3).at(2, 1, 0).is(1);
        x.at(1, 1, 31).is(2);
    }

    private static void emptyMapsHaveNoRoot() {
        Run x = new Run(7, "and its ROOT, if it has a KEY");
        x.hold(0).put(0, 0, 1).put(1, 31, 2).commit().remove(1, 31).commit().is(2).chunkIs(1, 2, 3, 1, 1, 1, 2);
        x.count(8).is(3).at(2, 0, 0).is(1).at(2, 1, 31).is(Run.NOTHING).remove(0, 0).commit().is(3);
        x.chunkIs(2, 3, 4, 1, 1, 1, 3).count(8).is(1).sync().is(5).count(3).is(1).count(4).is(31);
        x.put(1, 0, 3).commit().is(4).at(4, 1, 31).is(Run.NOTHING).at(4, 1, 0).is(3);
    }

    private static void mapsThatAreNotTouched() {
        Run x = new Run(7, "and to the ones from before for what is not TOUCHED");
        x.hold(0).putEverywhere(1).commit().put(3, 31, 2).commit().is(2).chunkIs(1, 2, 11, 2, 3, 3, 2);
        x.chunk(0, 4).is(18).count(8).is(21);
        for (int leaf = 0; leaf < 16; leaf++) {
            x.at(2, leaf / 4, leaf % 4 * 8).is(1);
        }
        x.at(2, 3, 31).is(2);
    }

    private static void firstRowIsTheLowest() {
        Run x = new Run(7, "the first such row of FREE ones with the least numbers");
        x.hold(0).put(0, 0, 1).put(1, 0, 1).commit().commitMeta().is(2).chunk(1, 1).is(3);
        x.put(0, 0, 3).commit().chunk(2, 1).is(4).put(1, 0, 4).commit().chunk(3, 1).is(6);
        x.sync().is(8).blocksFree(1, 1, 1, 1, 0, 0, 0, 0, 1);
        x.commitOne(2, 0, 5).is(5).chunkIs(2, 5, 0, 2).blocksFree(0, 0, 1, 1, 0, 0, 0, 0, 1);
        x.commitMeta().is(6).chunkIs(3, 6, 2, 1).blocksFree(0, 0, 0, 1, 0, 0, 0, 0, 1);
        x.commitOne(2, 0, 7).is(7).chunkIs(4, 7, 8, 2).commitMeta().is(8).chunkIs(5, 8, 3, 1);
    }

    private static void firstRowThatIsLongEnough() {
        Run x = new Run(7, "takes BLOCKS that lie one behind the other");
        x.hold(0).commitOne(0, 0, 1).commitOne(1, 0, 1).commitOne(0, 0, 2).sync().is(6);
        x.blocksFree(1, 1, 0, 0, 0, 0, 1).put(2, 0, 1).put(3, 0, 1).commit().is(4).chunkIs(2, 4, 6, 3);
        x.commitOne(2, 0, 2).is(5).chunkIs(3, 5, 0, 2);
    }

    private static void rowAtTheEnd() {
        Run x = new Run(7, "the first such row of FREE ones");
        x.rollbackOften(0, 21).putEverywhere(1).count(4).is(11).commit().is(1).chunkIs(21, 22, 21, 11).count(4).is(0);
        x.block(31, 1).is(22).block(31, 2).is(10);
        Run y = new Run(7, "FULL if there is no such row of BLOCKS");
        y.rollbackOften(0, 22).putEverywhere(1).count(4).is(10).commit().is(Run.FULL);
        Run z = new Run(7, "the first such row of FREE ones");
        z.rollbackOften(0, 30).commitOne(0, 0, 1).is(1).chunkIs(30, 31, 30, 2).count(4).is(0);
        Run w = new Run(7, "FULL if there is no such row of BLOCKS");
        w.rollbackOften(0, 31).commitOne(0, 0, 1).is(Run.FULL).remove(0, 0).commit().is(1).chunkIs(31, 32, 31, 1);
    }

    private static void rowAtTheBeginning() {
        Run x = new Run(7, "the first such row of FREE ones with the least numbers");
        x.rollbackOften(0, 32).sync().is(32).blocksFree(1, 1, 1).block(30, 0).is(1).block(31, 0).is(0);
        x.commitOne(0, 0, 1).is(1).chunkIs(1, 33, 0, 2).count(4).is(29);
    }

    /** Blocks 0 and 31 are the only ones that are free, and all that is there is pinned. */
    private static void firstAndLastFree(Run x) {
        x.hold(0).commitMeta().putEverywhere(1).commit().pin(2).putEverywhere(2).commit().pin(3);
        for (int v = 4; v <= 7; v++) {
            x.commitOne(0, 0, v).pin(v);
        }
        x.sync();
    }

    private static void rowsDoNotGoRound() {
        Run x = new Run(7, "BLOCKS that lie one behind the other");
        firstAndLastFree(x);
        x.is(31).count(4).is(2).block(0, 0).is(1).block(31, 0).is(1).commitOne(0, 0, 8).is(Run.FULL);
        x.rollback(7).is(8).chunkIs(6, 8, 0, 1).rollback(7).is(9).chunkIs(7, 9, 31, 1).rollback(7).is(Run.FULL);
    }

    private static void deadBlocksAreNotFree() {
        Run x = new Run(7, "one without is DEAD, and is gone with the next SYNC; then its BLOCKS are FREE");
        x.hold(0).commitOne(0, 0, 1).commitOne(0, 0, 2).chunk(0, 4).is(0).count(4).is(28).blocksFree(0, 0, 0, 0, 1);
        x.commitOne(0, 0, 3).chunk(2, 1).is(4).sync().is(6).blocksFree(1, 1, 1, 1, 0, 0, 1);
        x.commitOne(0, 0, 4).chunkIs(1, 4, 0);
    }

    private static void commitFull() {
        Run x = new Run(7, "FULL if there is no such row of BLOCKS");
        x.putEverywhere(1).commit().is(1).putEverywhere(2).commit().is(2).putEverywhere(3).commit().is(Run.FULL);
        x.commit().is(Run.FULL).count(0).is(2).hold(0).commit().is(Run.FULL).sync().is(22).commit().is(3);
        x.chunkIs(1, 3, 0, 11, 21, 21, 3);
        Run y = new Run(7, "FULL if there is no such row of BLOCKS");
        y.hold(0);
        for (int v = 1; v <= 16; v++) {
            y.commitOne(0, 0, v).is(v);
            y.pin(v - v % 2);
        }
        y.sync().is(32).count(4).is(16).put(0, 0, 17).put(1, 0, 17).commit().is(Run.FULL).count(6).is(2);
        y.remove(1, 0).remove(0, 0).commit().is(17).chunk((int) y.count(3).answer() - 1, 1).is(0);
    }

    private static void commitFullChangesNothing() {
        String sentence = "A call that is refused changes nothing";
        Twins.unchanged(7, sentence, x -> x.putEverywhere(1).commit().putEverywhere(2).commit().putEverywhere(3),
            x -> x.commit(), Run.FULL);
        Twins.unchanged(7, sentence, x -> x.rollbackOften(0, 32).put(0, 0, 1), x -> x.commit(), Run.FULL);
        Twins.unchanged(7, sentence, x -> x.pin(0).rollbackOften(0, 31).put(3, 31, 1), x -> x.commit(), Run.FULL);
        Twins.unchanged(7, sentence, x -> { firstAndLastFree(x); x.put(2, 2, 2); }, x -> x.commit(), Run.FULL);
    }

    private static void rollbackToTheLeastAndTheGreatest() {
        for (int version = 0; version <= 4; version++) {
            Run x = new Run(8, "NOW, and the LATEST VERSION, are a VERSION that is KEPT");
            x.hold(4).commitOne(0, 0, 1).commitOne(0, 0, 2).commitOne(0, 0, 3).commitOne(0, 0, 4).put(0, 0, 5);
            x.rollback(version).is(5).count(0).is(version).get(0, 0).is(version == 0 ? Run.NOTHING : version);
            x.count(1).is(version + 1).kept(version).is(version).kept(version + 1).is(Run.REFUSED).count(2).is(6);
            x.at(version, 0, 0).is(version == 0 ? Run.NOTHING : version).at(version + 1, 0, 0).is(Run.GONE);
        }
    }

    private static void rollbackDropsThoseAbove() {
        Run x = new Run(8, "those above it are dropped, PINNED or not");
        x.hold(4).commitOne(0, 0, 1).commitOne(0, 0, 2).pinOften(2, 9).commitOne(0, 0, 3).pin(3).commitOne(0, 0, 4);
        x.rollback(1).is(5).keptAre(0, 1).unpin(2).is(Run.NONE).unpin(3).is(Run.NONE).pin(2).is(Run.NONE);
        x.count(8).is(3).chunk(1, 4).is(0).chunk(2, 4).is(0).chunk(3, 4).is(0);
        x.commitOne(0, 0, 5).is(2).unpin(2).is(Run.NONE).pin(2).is(1);
    }

    private static void rollbackKeepsThoseBelow() {
        Run x = new Run(8, "the HOLD greatest numbers below the LATEST one");
        x.hold(2).commitOne(0, 0, 1).commitOne(0, 0, 2).commitOne(0, 0, 3).keptAre(1, 2, 3);
        x.rollback(2).is(4).keptAre(1, 2).at(1, 0, 0).is(1).rollback(1).is(5).keptAre(1).rollback(0).is(Run.NONE);
        Run y = new Run(8, "the HOLD greatest numbers below the LATEST one");
        y.commitOne(0, 0, 1).pin(1).commitOne(0, 0, 2).commitOne(0, 0, 3).keptAre(1, 2, 3);
        y.rollback(2).keptAre(1, 2).rollback(1).keptAre(1).unpin(1).is(0).keptAre(1);
    }

    private static void rollbackKeepsItsPins() {
        Run x = new Run(8, "those above it are dropped");
        x.commitOne(0, 0, 1).pinOften(1, 8).pin(0).commitOne(0, 0, 2).rollback(1).is(3);
        x.pin(1).is(9).pin(1).is(Run.FULL).unpin(0).is(0).unpin(1).is(8);
    }

    private static void rollbackForgetsTouched() {
        Run x = new Run(8, "nothing is TOUCHED");
        x.hold(0).putEverywhere(1).commit().rollback(1).compact(64).is(20).count(6).is(16).count(7).is(4);
        x.rollback(1).is(3).count(6).is(0).count(7).is(0).commit().is(1).put(0, 0, 2).remove(3, 24).count(6).is(2);
        x.rollback(1).is(4).count(6).is(0).get(0, 0).is(1).get(3, 24).is(1).commit().is(1).count(2).is(5);
    }

    private static void rollbackWritesAMetaAlone() {
        Run x = new Run(8, "a CHUNK is written of a META with that VERSION alone, which leads to the same ROOTS");
        x.commitOne(0, 0, 1).commitOne(1, 31, 2).rollback(1).is(3).chunkIs(2, 3, 4, 1, 1, 1, 1).count(5).is(5);
        x.chunkIs(0, 1, 0, 2, 3, 2, 1).chunkIs(1, 2, 2, 2, 3, 0, 2).count(8).is(3).block(4, 3).is(1);
        x.sync().is(5).count(3).is(2).rollback(1).is(4).chunkIs(2, 4, 2, 1, 1, 1, 1).chunk(1, 4).is(0);
        x.sync().is(1).count(3).is(2).crash(0, 0).is(1).get(0, 0).is(1).count(2).is(5);
    }

    private static void rollbackToTheBeginning() {
        Run x = new Run(8, "For VERSION 0 of the beginning: a META that leads to none");
        x.rollback(0).is(1).chunkIs(0, 1, 0, 1, 1, 1, 0).countsAre(0, 1, 2, 1, 31, 1, 0, 0, 1, 0).keptAre(0);
        Run y = new Run(8, "For VERSION 0 of the beginning: a META that leads to none");
        y.commitOne(0, 0, 1).sync().rollback(0).is(2).chunkIs(1, 2, 2, 1, 1, 1, 0).get(0, 0).is(Run.NOTHING);
        y.count(8).is(1).chunk(0, 4).is(0).crash(1, 0).is(0).count(3).is(1).count(2).is(3).commitOne(0, 0, 2).is(1);
        y.chunkIs(1, 3, 0, 2, 3, 3, 1);
        Run z = new Run(8, "For VERSION 0 of the beginning: a META that leads to none");
        z.commitOne(0, 0, 1).sync().rollback(0).is(2).crash(0, 0).is(1).get(0, 0).is(1);
    }

    private static void rollbackToZeroOnceMore() {
        Run x = new Run(8, "and is that of the VERSION from then on");
        x.rollback(0).is(1).rollback(0).is(2).chunk(0, 4).is(0).chunk(1, 4).is(1).count(8).is(1);
        x.commitOne(0, 0, 1).is(1).keptAre(0, 1).count(8).is(4).sync().is(4).count(3).is(2).chunk(0, 0).is(2);
        x.rollback(0).is(4).chunk(0, 4).is(0).chunk(2, 5).is(0).count(8).is(1).keptAre(0);
    }

    private static void rollbackOfVersionsNotKept() {
        Run x = new Run(8, "NONE if it is not KEPT");
        x.commitOne(0, 0, 1).commitOne(0, 0, 2);
        for (int version : new int[] {0, -1, 3, Run.LEAST, Run.MOST}) {
            x.rollback(version).is(Run.NONE);
        }
        x.hold(0).rollback(1).is(Run.NONE).rollback(2).is(3).rollback(3).is(Run.NONE);
    }

    private static void rollbackFull() {
        Run x = new Run(8, "NONE if it is not KEPT; FULL if no BLOCK is FREE");
        x.rollbackOften(0, 32).is(32).count(4).is(0).rollback(0).is(Run.FULL).rollback(1).is(Run.NONE);
        x.rollback(-1).is(Run.NONE).rollback(Run.LEAST).is(Run.NONE).rollback(Run.MOST).is(Run.NONE);
        x.sync().is(32).rollback(0).is(33).chunkIs(1, 33, 0);
        String sentence = "A call that is refused changes nothing";
        Twins.unchanged(8, sentence, y -> y.rollbackOften(0, 32), y -> y.rollback(0), Run.FULL);
        Twins.unchanged(8, sentence, y -> y.rollbackOften(0, 32).put(0, 0, 1), y -> y.rollback(0), Run.FULL);
        Twins.unchanged(8, sentence, y -> y.commitOne(0, 0, 1).pinOften(1, 2).commitOne(0, 0, 2).pin(2)
            .rollbackOften(2, 28).put(1, 1, 1), y -> y.rollback(1), Run.FULL);
        Twins.unchanged(8, sentence, y -> y.hold(4).commitOne(0, 0, 1).rollbackOften(1, 30).put(0, 0, 9),
            y -> y.rollback(0), Run.FULL);
    }

    private static void rollbackOnTheLastFreeBlock() {
        Run x = new Run(8, "FULL if no BLOCK is FREE");
        x.rollbackOften(0, 31).count(4).is(1).rollback(0).is(32).chunkIs(31, 32, 31, 1).count(4).is(0);
        x.rollback(0).is(Run.FULL);
    }

    private static void syncOfNothing() {
        String sentence = "how many WRITES were PENDING";
        Twins.unchanged(12, sentence, x -> { }, x -> x.sync(), 0);
        Twins.unchanged(12, sentence, x -> x.commitOne(0, 0, 1).sync().put(0, 0, 2), x -> x.sync(), 0);
        Twins.unchanged(12, sentence, x -> x.commitOne(0, 0, 1).crash(1, 0), x -> x.sync(), 0);
    }

    private static void syncOfAllBlocks() {
        Run x = new Run(12, "how many WRITES were PENDING");
        x.rollbackOften(0, 32).count(5).is(32).sync().is(32).count(5).is(0).count(4).is(31).sync().is(0);
        Run y = new Run(12, "how many WRITES were PENDING");
        y.rollback(0).count(5).is(1).sync().is(1).count(5).is(0);
    }

    private static void syncEndsPending() {
        Run x = new Run(12, "no WRITE is PENDING any more");
        x.commitOne(0, 0, 1).block(0, 3).is(1).block(1, 3).is(1).sync().is(2).block(0, 3).is(0).block(1, 3).is(0);
        x.crash(1, 0).is(Run.REFUSED).crash(0, 0).is(1).get(0, 0).is(1);
    }

    private static void syncFreesDeadChunks() {
        String sentence = "DEAD CHUNKS are gone";
        Run byCommit = new Run(12, sentence).hold(0).commitOne(0, 0, 1).sync().commitOne(0, 0, 2);
        byCommit.count(3).is(2).sync().is(2).count(3).is(1).blocksFree(1, 1, 0, 0, 1).blocksHold(1, 1, 2, 2, 0);
        Run byHold = new Run(12, sentence).commitOne(0, 0, 1).commitOne(0, 0, 2).sync().hold(0);
        byHold.count(3).is(2).sync().is(0).count(3).is(1).count(4).is(30).blocksFree(1, 1, 0, 0, 1);
        Run byUnpin = new Run(12, sentence).hold(0).commitOne(0, 0, 1).pin(1).commitOne(0, 0, 2).sync().unpin(1);
        byUnpin.count(3).is(2).sync().is(0).count(3).is(1).count(4).is(30);
        Run byRollback = new Run(12, sentence).commitOne(0, 0, 1).commitOne(0, 0, 2).sync().rollback(1);
        byRollback.count(3).is(3).sync().is(1).count(3).is(2).blocksFree(0, 0, 1, 1, 0).chunk(1, 0).is(3);
    }

    private static void syncLeavesWhatIsThere() {
        Run x = new Run(12, "A CHUNK with a LIVE PAGE is there");
        x.hold(0).put(0, 0, 1).put(0, 8, 1).commit().commitOne(0, 0, 2).chunk(0, 4).is(1).sync().is(4);
        x.count(3).is(2).chunkIs(0, 1, 0, 2, 4, 1, 1).blocksFree(0, 0, 0, 0, 1).get(0, 8).is(1).put(0, 8, 2);
        x.sync().is(0).chunk(0, 4).is(1).commit().is(3).chunk(0, 4).is(0).sync().is(2).blocksFree(1, 1);
    }
}
