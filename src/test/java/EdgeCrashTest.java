/** The boundary cases of promise 14: crash. */
public final class EdgeCrashTest {
    private EdgeCrashTest() {
    }

    public static void main(String[] args) {
        leastAndGreatestNumber();
        numberOutOfRange();
        maskOutOfRange();
        firstOnesAreDone();
        eachBitOfTheMask();
        maskBeginsBehindTheFirst();
        beyondTheMask();
        bitsWithoutAWrite();
        allBlocksPending();
        writesArePendingInOrder();
        pagesLieInOrder();
        nothingPending();
        noMetaAtAll();
        noMetaIsAsAtTheBeginning();
        noMetaAfterARollback();
        metaThatIsNotWhole();
        eachBlockOfAChunkCounts();
        eachPageCounts();
        leafOfAnOlderChunk();
        rootOfAnOlderChunk();
        greatestIdOfSeveral();
        olderOneIfTheNewestIsLost();
        lostBlocksHoldWhatASyncSaw();
        lostBlocksHoldWhatACrashLeft();
        lostBlocksHoldNothingAtFirst();
        crashTwice();
        nothingKeptPinnedTouchedPending();
        usedAndFreeBlocks();
        brokenChunkWithLivePages();
        nextIdIsBehindTheGreatest();
        nextIdCountsFreeBlocks();
        nextIdOfAnEmptyFile();
        refusedChangesNothing();
        Check.finish();
    }

    private static Run run(String sentence) {
        return new Run(14, sentence);
    }

    private static void leastAndGreatestNumber() {
        run("0 to how many there are").commitOne(0, 0, 1).crash(0, 0).is(0).count(5).is(0);
        run("0 to how many there are").commitOne(0, 0, 1).crash(1, 0).is(0).count(5).is(0);
        run("0 to how many there are").commitOne(0, 0, 1).crash(2, 0).is(1).count(5).is(0);
    }

    private static void numberOutOfRange() {
        Run x = run("REFUSED if k is not 0 to how many there are");
        x.commitOne(0, 0, 1);
        for (int k : new int[] {-1, 3, Run.LEAST, Run.MOST}) {
            x.crash(k, 0).is(Run.REFUSED).crash(k, 65535).is(Run.REFUSED).crash(k, -1).is(Run.REFUSED);
        }
        x.count(5).is(2).sync().is(2).crash(1, 0).is(Run.REFUSED).crash(-1, 0).is(Run.REFUSED).crash(0, 0).is(1);
        run("REFUSED if k is not 0 to how many there are").crash(1, 0).is(Run.REFUSED).crash(0, 0).is(0);
    }

    private static void maskOutOfRange() {
        Run x = run("or mask not 0..65535");
        x.commitOne(0, 0, 1);
        for (int mask : new int[] {-1, 65536, Run.LEAST, Run.MOST}) {
            x.crash(0, mask).is(Run.REFUSED).crash(2, mask).is(Run.REFUSED).crash(3, mask).is(Run.REFUSED);
        }
        x.count(5).is(2).crash(0, 65535).is(1);
        run("mask 0..65535").commitOne(0, 0, 1).crash(0, 0).is(0);
    }

    private static void firstOnesAreDone() {
        for (int k = 0; k <= 32; k++) {
            Run x = run("of the PENDING WRITES the first k are done");
            x.rollbackOften(0, 32).crash(k, 0).is(0).count(2).is(k + 1).count(3).is(k == 0 ? 0 : 1);
            for (int b = 0; b < 32; b++) {
                x.block(b, 1).is(b < k ? b + 1 : 0);
            }
        }
    }

    private static void eachBitOfTheMask() {
        for (int j = 0; j < 16; j++) {
            Run x = run("of the next 16 the j-th (0 first) if bit j of mask is 1");
            x.rollbackOften(0, 32).crash(0, 1 << j).is(0).count(2).is(j + 2).count(3).is(1).chunkIs(0, j + 1, j, 1);
            for (int b = 0; b < 32; b++) {
                x.block(b, 1).is(b == j ? j + 1 : 0);
            }
            Run y = run("of the next 16 the j-th (0 first) if bit j of mask is 1");
            y.rollbackOften(0, 32).crash(0, 65535 - (1 << j)).is(0).count(2).is(j == 15 ? 16 : 17);
            for (int b = 0; b < 32; b++) {
                y.block(b, 1).is(b == j || b >= 16 ? 0 : b + 1);
            }
        }
    }

    private static void maskBeginsBehindTheFirst() {
        for (int k = 1; k <= 17; k++) {
            Run x = run("of the next 16 the j-th (0 first)");
            x.rollbackOften(0, 32).crash(k, 0x8002).is(0);
            for (int b = 0; b < 32; b++) {
                x.block(b, 1).is(b < k || b == k + 1 || b == k + 15 ? b + 1 : 0);
            }
        }
    }

    private static void beyondTheMask() {
        Run x = run("others are lost").rollbackOften(0, 32).crash(0, 65535).is(0).block(15, 1).is(16).block(16, 1).is(0);
        x.block(31, 1).is(0).count(2).is(17);
        Run y = run("others are lost").rollbackOften(0, 32).crash(15, 65535).block(30, 1).is(31).block(31, 1).is(0);
        y.count(2).is(32);
        Run z = run("others are lost").rollbackOften(0, 32).crash(16, 65535).block(31, 1).is(32).count(2).is(33);
        z.chunkIs(0, 32, 31);
    }

    private static void bitsWithoutAWrite() {
        Run x = run("of the next 16 the j-th if bit j of mask is 1");
        x.commitOne(0, 0, 1).crash(1, 65535).is(1).blocksHold(1, 1, 0, 0).count(4).is(30);
        Run y = run("of the next 16 the j-th if bit j of mask is 1");
        y.commitOne(0, 0, 1).crash(2, 65535).is(1).blocksHold(1, 1, 0, 0);
        Run z = run("of the next 16 the j-th if bit j of mask is 1");
        z.commitOne(0, 0, 1).crash(0, 65532).is(0).blocksHold(0, 0, 0, 0);
    }

    private static void allBlocksPending() {
        Run x = run("of the PENDING WRITES the first k are done").hold(0);
        for (int v = 1; v <= 16; v++) {
            x.commitOne(0, 0, v);
        }
        x.count(5).is(32).crash(33, 0).is(Run.REFUSED).crash(32, 0).is(16).get(0, 0).is(16).count(4).is(30);
        x.chunkIs(0, 16, 30, 2).count(3).is(1).count(2).is(17);
    }

    /** Chunk 4 does not fit into the row that is free below, chunk 5 does: its writes are the later ones. */
    private static void writesArePendingInOrder() {
        for (int k = 0; k <= 5; k++) {
            Run x = run("Writing it writes its BLOCKS in order; these WRITES are PENDING, in order");
            x.hold(0).commitOne(0, 0, 1).commitOne(1, 0, 1).commitOne(0, 0, 2).sync().put(2, 0, 1).put(3, 0, 1).commit();
            x.commitOne(2, 0, 2).chunkIs(2, 4, 6, 3).chunkIs(3, 5, 0, 2).count(5).is(5);
            x.crash(k, 0).is(k == 5 ? 5 : k >= 3 ? 4 : 3).blocksHold(k >= 4 ? 5 : 1, k == 5 ? 5 : 1, 2, 2, 3, 3,
                k >= 1 ? 4 : 0, k >= 2 ? 4 : 0, k >= 3 ? 4 : 0);
        }
    }

    /** Chunk 1 has leaves 0 and 1 of map 0; its root and leaf 0 of map 3; leaf 3 and the root of that; the meta. */
    private static void pagesLieInOrder() {
        int[][] leaves = {{0, 0}, {0, 8}, {3, 0}, {3, 24}};
        int[] lies = {0, 0, 1, 2};
        for (int needed = 0; needed < 4; needed++) {
            for (int lost = 0; lost < 4; lost++) {
                Run x = run("its TOUCHED LEAVES that have a KEY, by numbers, and its ROOT; then a META");
                x.put(3, 24, 1).put(3, 0, 1).put(0, 8, 1).put(0, 0, 1).commit().is(1).chunkIs(0, 1, 0, 4, 7, 7, 1);
                for (int other = 3; other >= 0; other--) {
                    if (other != needed) {
                        x.put(leaves[other][0], leaves[other][1], 2);
                    }
                }
                x.commit().is(2).chunkIs(1, 2, 4, 3, 6, 6, 2).crash(0, 127 - (1 << lost)).is(lost == lies[needed] ? 0 : 2);
                x.get(leaves[needed][0], leaves[needed][1]).is(lost == lies[needed] ? Run.NOTHING : 1);
            }
        }
    }

    private static void nothingPending() {
        run("A CRASH").crash(0, 0).is(0).countsAre(0, 1, 1, 0, 32, 0, 0, 0, 0, 0);
        Run x = run("A CRASH").hold(4).commitOne(0, 0, 1).commitOne(1, 0, 2).sync().put(0, 0, 9).crash(0, 65535).is(2);
        x.keptAre(2).get(0, 0).is(1).get(1, 0).is(2).countsAre(2, 1, 3, 2, 28, 0, 0, 0, 5, 2);
    }

    private static void noMetaAtAll() {
        Run x = run("If there is none it is as at the beginning (VERSION 0)");
        x.hold(3).commitOne(0, 0, 1).pin(1).commitOne(0, 0, 2).compact(64).put(1, 1, 1).crash(0, 0).is(0);
        x.countsAre(0, 1, 1, 0, 32, 0, 0, 0, 0, 0).keptAre(0).get(0, 0).is(Run.NOTHING).at(0, 0, 0).is(Run.NOTHING);
        x.at(1, 0, 0).is(Run.GONE).chunk(0, 0).is(Run.REFUSED).hold(1).is(3).unpin(0).is(Run.NONE).blocksHold(0, 0, 0);
    }

    private static void noMetaIsAsAtTheBeginning() {
        Run x = run("If there is none it is as at the beginning (VERSION 0)");
        x.commitOne(0, 0, 1).crash(1, 0).is(0).countsAre(0, 1, 2, 0, 32, 0, 0, 0, 0, 0).blocksHold(1, 0);
        x.commit().is(0).rollback(0).is(2).chunkIs(0, 2, 0, 1, 1, 1, 0).commitOne(0, 0, 2).is(1).keptAre(0, 1);
        Run y = run("If there is none it is as at the beginning (VERSION 0)");
        y.commitOne(0, 0, 1).crash(0, 0).commitOne(0, 0, 2).is(1).chunkIs(0, 1, 0, 2, 3, 3, 1).keptAre(0, 1);
        y.at(0, 0, 0).is(Run.NOTHING).at(1, 0, 0).is(2).count(8).is(3);
    }

    private static void noMetaAfterARollback() {
        Run x = run("If there is none it is as at the beginning (VERSION 0)");
        x.rollback(0).crash(0, 0).is(0).count(3).is(0).count(8).is(0).count(2).is(1);
        Run y = run("the one with the greatest ID is the LATEST VERSION's");
        y.rollback(0).crash(1, 0).is(0).count(3).is(1).count(8).is(1).count(2).is(2).block(0, 0).is(0);
    }

    private static void metaThatIsNotWhole() {
        Run x = run("of the METAS whose CHUNK is WHOLE (all its BLOCKS hold it)");
        x.commitOne(0, 0, 1).crash(0, 2).is(0).blocksHold(0, 1, 0).blocksFree(1, 1).get(0, 0).is(Run.NOTHING);
        Run y = run("of the METAS whose CHUNK is WHOLE (all its BLOCKS hold it)");
        y.commitOne(0, 0, 1).crash(1, 0).is(0).blocksHold(1, 0, 0).blocksFree(1, 1).count(3).is(0);
    }

    private static void eachBlockOfAChunkCounts() {
        for (int lost = 0; lost < 11; lost++) {
            Run x = run("all its BLOCKS hold it");
            x.putEverywhere(1).commit().crash(0, 65535 - (1 << lost)).is(0).count(9).is(0).count(4).is(32);
            x.count(2).is(2).block(lost, 1).is(0).block(lost == 0 ? 1 : 0, 1).is(1);
        }
        run("all its BLOCKS hold it").putEverywhere(1).commit().crash(0, 2047).is(1).count(9).is(16).count(4).is(21);
    }

    /** A leaf and its root in one block, a meta in the next, five times: the last one needs no older meta. */
    private static void eachPageCounts() {
        int[] due = {0, 5, 1, 5, 2, 5, 3, 5, 4, 4};
        for (int lost = 0; lost < 10; lost++) {
            Run x = run("and all PAGES to which they lead are in BLOCKS that hold them");
            x.commitOne(0, 0, 1).commitOne(0, 8, 2).commitOne(0, 16, 3).commitOne(0, 24, 4).commitOne(1, 0, 5);
            x.crash(0, 1023 - (1 << lost)).is(due[lost]).count(9).is(due[lost]).count(2).is(6);
            x.get(0, 0).is(due[lost] >= 1 ? 1 : Run.NOTHING).get(1, 0).is(due[lost] == 5 ? 5 : Run.NOTHING);
        }
    }

    private static void leafOfAnOlderChunk() {
        Run x = run("and all PAGES to which they lead are in BLOCKS that hold them");
        x.commitOne(3, 31, 1).sync().commitOne(0, 0, 2).commitOne(0, 8, 3).crash(0, 14).is(1).get(0, 8).is(Run.NOTHING);
        x.get(3, 31).is(1).blocksHold(1, 1, 0, 2, 3, 3, 0).count(4).is(30).count(2).is(4);
    }

    /** Chunk 2 has two leaves in one block, the root and the meta in the next: chunk 3 needs both blocks. */
    private static void rootOfAnOlderChunk() {
        int[] due = {1, 1, 2, 2};
        for (int lost = 0; lost < 4; lost++) {
            Run x = run("leads to the ROOTS of the MAPS");
            x.commitOne(0, 0, 1).sync().put(3, 0, 2).put(3, 8, 2).commit().commitOne(1, 0, 3).count(5).is(4);
            x.crash(0, 15 - (1 << lost)).is(due[lost]).get(0, 0).is(1).get(3, 8).is(due[lost] == 2 ? 2 : Run.NOTHING);
        }
    }

    private static void greatestIdOfSeveral() {
        Run x = run("the one with the greatest ID is the LATEST VERSION's");
        x.hold(4).commitOne(0, 0, 1).commitOne(0, 0, 2).commitOne(0, 0, 3).rollback(1).crash(7, 0).is(1);
        x.get(0, 0).is(1).keptAre(1).count(2).is(5).count(3).is(2).chunkIs(1, 4, 6, 1, 1, 1, 1);
        Run y = run("the one with the greatest ID is the LATEST VERSION's");
        y.hold(0).commitOne(0, 0, 1).sync().commitOne(0, 0, 2).sync().commitOne(0, 0, 3).chunk(1, 1).is(0);
        y.crash(2, 0).is(3).get(0, 0).is(3).chunkIs(0, 3, 0, 2).blocksFree(0, 0, 1, 1).blocksHold(3, 3, 2, 2);
    }

    private static void olderOneIfTheNewestIsLost() {
        for (int k = 0; k <= 6; k++) {
            Run x = run("of the METAS the one with the greatest ID is the LATEST VERSION's, and NOW is that");
            x.commitOne(0, 0, 1).commitOne(0, 0, 2).commitOne(0, 0, 3).crash(k, 0).is(k / 2);
            x.get(0, 0).is(k < 2 ? Run.NOTHING : k / 2).count(0).is(k / 2).keptAre(k / 2).count(2).is((k + 1) / 2 + 1);
        }
    }

    private static void lostBlocksHoldWhatASyncSaw() {
        Run x = run("then their BLOCKS hold what they held at the latest SYNC");
        x.hold(0).commitOne(0, 0, 1).commitOne(0, 0, 2).sync().commitOne(0, 0, 3).blocksHold(3, 3, 2, 2);
        x.crash(0, 0).is(2).blocksHold(1, 1, 2, 2).blocksFree(1, 1, 0, 0).count(2).is(3).get(0, 0).is(2);
        x.commitOne(0, 0, 4).blocksHold(3, 3, 2, 2).crash(1, 0).is(2).blocksHold(3, 1, 2, 2).block(1, 2).is(1);
    }

    private static void lostBlocksHoldWhatACrashLeft() {
        Run x = run("whatever a CRASH leaves counts as held from then on");
        x.commitOne(0, 0, 1).crash(0, 1).is(0).commitOne(0, 0, 2).blocksHold(2, 2).crash(0, 2).is(0).blocksHold(1, 2);
        x.count(2).is(3).commitOne(0, 0, 3).blocksHold(3, 3).crash(0, 0).is(0).blocksHold(1, 2).count(2).is(3);
        x.commitOne(0, 0, 4).crash(2, 0).is(1).commitOne(0, 0, 5).crash(0, 0).is(1).get(0, 0).is(4).blocksHold(3, 3, 0);
    }

    private static void lostBlocksHoldNothingAtFirst() {
        Run x = run("nothing at first");
        x.putEverywhere(1).commit().crash(0, 0).is(0);
        for (int b = 0; b < 32; b++) {
            x.block(b, 0).is(1).block(b, 1).is(0).block(b, 3).is(0);
        }
    }

    private static void crashTwice() {
        String sentence = "nothing is PINNED, TOUCHED or PENDING";
        Twins.unchanged(14, sentence, x -> x.commitOne(0, 0, 1).commitOne(0, 0, 2).crash(3, 0), x -> x.crash(0, 0), 1);
        Twins.unchanged(14, sentence, x -> x.commitOne(0, 0, 1).crash(0, 2), x -> x.crash(0, 65535), 0);
        Twins.unchanged(14, sentence, x -> { }, x -> x.crash(0, 0), 0);
    }

    private static void nothingKeptPinnedTouchedPending() {
        Run x = run("no other VERSION is KEPT, nothing is PINNED, TOUCHED or PENDING");
        x.hold(4).commitOne(0, 0, 1).pin(1).commitOne(1, 0, 2).pinOften(2, 9).pin(0).sync().hold(0).compact(64);
        x.put(2, 2, 2).commitOne(3, 3, 3).is(3).compact(64).put(0, 0, 9).crash(0, 0).is(2).keptAre(2);
        x.count(5).is(0).count(6).is(0).count(7).is(0).unpin(2).is(Run.NONE).unpin(1).is(Run.NONE).pin(2).is(1);
        x.get(0, 0).is(1).get(1, 0).is(2).get(2, 2).is(Run.NOTHING).at(1, 0, 0).is(Run.GONE).hold(1).is(0);
        Run y = run("no other VERSION is KEPT, nothing is PINNED, TOUCHED or PENDING");
        y.hold(0).commitOne(0, 0, 1).rollback(1).compact(64).is(2).count(6).is(1).count(7).is(1).crash(3, 0).is(1);
        y.count(6).is(0).count(7).is(0).commit().is(1);
    }

    private static void usedAndFreeBlocks() {
        Run x = run("BLOCKS of CHUNKS with LIVE PAGES are used, others are FREE (and hold what they hold)");
        x.hold(4).commitOne(0, 0, 1).commitOne(1, 0, 2).commitOne(0, 0, 3).count(4).is(26).crash(6, 0).is(3);
        x.blocksFree(1, 1, 0, 0, 0, 0, 1).blocksHold(1, 1, 2, 2, 3, 3, 0).count(3).is(2).chunk(0, 0).is(2);
        x.count(4).is(28).chunk(0, 4).is(2).chunk(1, 4).is(3).count(8).is(5);
        x.commitOne(0, 0, 4).is(4).chunkIs(2, 4, 0, 2);
        Run y = run("CHUNKS without are gone");
        y.hold(0).commitOne(0, 0, 1).commitOne(0, 0, 2).count(3).is(2).crash(4, 0).is(2).count(3).is(1);
        y.blocksFree(1, 1, 0, 0, 1);
    }

    /** The meta of version 1 is lost, but version 2 needs a leaf and a root beside it. */
    private static void brokenChunkWithLivePages() {
        Run x = run("BLOCKS of CHUNKS with LIVE PAGES are used");
        x.put(0, 0, 1).put(1, 0, 2).commit().commitOne(1, 0, 3).crash(1, 12).is(2).blocksHold(1, 0, 0, 2, 2, 0);
        x.blocksFree(0, 0, 0, 0, 0, 1).count(3).is(2).chunkIs(0, 1, 0, 3, 5, 2, 1).count(8).is(5).count(4).is(27);
        x.get(0, 0).is(1).get(1, 0).is(3).compact(64).is(2).commit().is(3).hold(0).sync().blocksFree(1, 1, 1, 0, 0);
        Run y = run("of the METAS whose CHUNK is WHOLE");
        y.put(0, 0, 1).put(1, 0, 2).commit().commitOne(1, 0, 3).crash(1, 12).commitOne(0, 0, 4).is(3);
        y.crash(0, 0).is(2).get(0, 0).is(1).crash(0, 0).is(2).count(2).is(3);
    }

    private static void nextIdIsBehindTheGreatest() {
        Run x = run("The next ID is one more than the greatest in any BLOCK");
        x.commitOne(0, 0, 1).sync().commitOne(0, 0, 2).commitOne(0, 0, 3).count(2).is(4).crash(0, 0).is(1);
        x.count(2).is(2).commitOne(0, 0, 4).is(2).chunk(1, 0).is(2).crash(1, 0).is(1).count(2).is(3);
    }

    private static void nextIdCountsFreeBlocks() {
        Run x = run("The next ID is one more than the greatest in any BLOCK");
        x.commitOne(0, 0, 1).sync().rollbackOften(1, 1).commitOne(0, 0, 2).crash(0, 4).is(1).block(4, 1).is(3);
        x.block(4, 0).is(1).count(2).is(4).commitOne(0, 0, 5).is(2).chunkIs(1, 4, 2, 2).sync().crash(0, 0).is(2);
        x.count(2).is(5);
        Run y = run("The next ID is one more than the greatest in any BLOCK");
        y.rollbackOften(0, 30).commitOne(0, 0, 1).crash(0, 0).count(2).is(1);
        Run z = run("The next ID is one more than the greatest in any BLOCK");
        z.rollbackOften(0, 31).sync().crash(0, 0).is(0).count(2).is(32).commitOne(0, 0, 1).crash(1, 0).is(0);
        z.count(2).is(33).block(0, 1).is(32).block(1, 1).is(2);
    }

    private static void nextIdOfAnEmptyFile() {
        run("The next ID is one more than the greatest in any BLOCK").crash(0, 0).count(2).is(1).rollback(0).is(1);
        Run x = run("The next ID is one more than the greatest in any BLOCK").rollbackOften(0, 5).count(2).is(6);
        x.crash(0, 0).count(2).is(1).rollback(0).is(1);
    }

    private static void refusedChangesNothing() {
        String sentence = "A call that is refused changes nothing";
        int[][] wrong = {{-1, 0}, {3, 0}, {Run.LEAST, 0}, {Run.MOST, 0}, {0, -1}, {0, 65536}, {2, Run.LEAST},
            {2, Run.MOST}, {-1, -1}, {3, 65536}};
        for (int[] row : wrong) {
            Twins.unchanged(14, sentence, x -> x.commitOne(0, 0, 1).sync().commitOne(0, 0, 2).pin(1).put(1, 1, 1),
                x -> x.crash(row[0], row[1]), Run.REFUSED);
        }
        Twins.unchanged(14, sentence, x -> { }, x -> x.crash(1, 0), Run.REFUSED);
    }
}
