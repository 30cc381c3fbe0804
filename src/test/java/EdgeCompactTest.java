/** The boundary cases of promise 13: compact. */
public final class EdgeCompactTest {
    private EdgeCompactTest() {
    }

    public static void main(String[] args) {
        outOfRange();
        outOfRangeComesFirst();
        leastAndGreatestNumber();
        leastShare();
        greatestShareAndAnswer();
        mustBeBelow();
        cutNotRounded();
        everythingLive();
        noChunkAtAll();
        deadChunksAreLeftOut();
        leastShareOfSeveral();
        leastIdOfSeveral();
        pagesOfOldVersionsAlone();
        pagesThatTheLatestLeadsTo();
        rootAlone();
        leafAlone();
        touchedAlready();
        writesNothingItself();
        refusedChangesNothing();
        Check.finish();
    }

    private static Run run(String sentence) {
        return new Run(13, sentence);
    }

    /** Chunk 1 has 21 pages, of which the last leaf alone is live; chunk 2 has the others anew. */
    private static void oneOfTwentyOne(Run x) {
        x.hold(0).putEverywhere(1).commit();
        for (int leaf = 0; leaf < 15; leaf++) {
            x.put(leaf / 4, leaf % 4 * 8, 2);
        }
        x.commit();
    }

    /** Chunk 1 has 21 pages, of which all but the meta are live; chunk 2 is a meta alone. */
    private static void twentyOfTwentyOne(Run x) {
        x.hold(0).putEverywhere(1).commit().rollback(1);
    }

    private static void outOfRange() {
        for (int n : new int[] {0, 65, -1, Run.LEAST, Run.MOST}) {
            Run x = run("1..64, else REFUSED");
            oneOfTwentyOne(x);
            x.compact(n).is(Run.REFUSED).count(6).is(0).count(7).is(0).compact(64).is(1);
        }
    }

    private static void outOfRangeComesFirst() {
        Run x = run("what is named first is tested first");
        for (int n : new int[] {0, 65, -1, Run.LEAST, Run.MOST}) {
            x.compact(n).is(Run.REFUSED);
        }
        x.compact(1).is(Run.NONE).compact(64).is(Run.NONE);
    }

    private static void leastAndGreatestNumber() {
        Run x = run("if that is below n (1..64, else REFUSED)");
        oneOfTwentyOne(x);
        x.compact(1).is(Run.NONE).compact(2).is(Run.NONE).compact(64).is(1).compact(63).is(1);
    }

    private static void leastShare() {
        Run x = run("64 times its LIVE PAGES, divided by its PAGES (cut)");
        oneOfTwentyOne(x);
        x.chunkIs(0, 1, 0, 11, 21, 1).chunkIs(1, 2, 11, 10, 20, 20).compact(3).is(Run.NONE).count(6).is(0);
        x.compact(4).is(1).count(6).is(1).count(7).is(0).commit().is(3).chunkIs(2, 3, 21, 2, 3, 3).chunk(0, 4).is(0);
        x.at(3, 3, 24).is(1).at(3, 3, 16).is(2);
    }

    private static void greatestShareAndAnswer() {
        Run x = run("how many");
        twentyOfTwentyOne(x);
        x.chunkIs(0, 1, 0, 11, 21, 20).compact(60).is(Run.NONE).count(6).is(0).compact(61).is(20);
        x.count(6).is(16).count(7).is(4).commit().is(2).chunkIs(2, 3, 12, 11, 21, 21, 2).chunk(0, 4).is(0);
        x.count(6).is(0).count(7).is(0).sync().count(3).is(1);
    }

    private static void mustBeBelow() {
        Run x = run("if that is below n");
        x.hold(0).put(0, 0, 1).put(0, 8, 2).put(2, 31, 3).commit().commitOne(0, 0, 4).chunk(0, 4).is(3);
        x.compact(31).is(Run.NONE).compact(32).is(Run.NONE).count(6).is(0).compact(33).is(3);
    }

    private static void cutNotRounded() {
        Run x = run("divided by its PAGES (cut)");
        x.hold(0).commitOne(0, 0, 1).commitOne(1, 0, 1).chunk(0, 4).is(2).chunk(0, 3).is(3);
        x.compact(42).is(Run.NONE).compact(43).is(2);
    }

    private static void everythingLive() {
        Run x = run("if that is below n");
        x.hold(4).commitOne(0, 0, 1).commitOne(1, 0, 1).commitOne(0, 0, 2).chunk(0, 4).is(3).chunk(1, 4).is(3);
        x.compact(64).is(Run.NONE).count(6).is(0).count(7).is(0).commit().is(3);
        run("but for that of the LATEST VERSION's META").commitOne(0, 0, 1).compact(64).is(Run.NONE);
        run("but for that of the LATEST VERSION's META").rollback(0).compact(64).is(Run.NONE);
    }

    private static void noChunkAtAll() {
        run("NONE if there is no such CHUNK").compact(1).is(Run.NONE).compact(64).is(Run.NONE);
        run("NONE if there is no such CHUNK").put(0, 0, 1).compact(64).is(Run.NONE).count(6).is(1);
        run("NONE if there is no such CHUNK").commitOne(0, 0, 1).crash(1, 0).compact(64).is(Run.NONE);
    }

    private static void deadChunksAreLeftOut() {
        Run x = run("Of the CHUNKS that are there");
        x.hold(0).commitOne(0, 0, 1).commitOne(0, 0, 2).chunk(0, 4).is(0).compact(1).is(Run.NONE);
        x.compact(64).is(Run.NONE).count(6).is(0).commitOne(1, 0, 3).compact(64).is(2).count(6).is(1).count(7).is(1);
        x.commit().is(4).sync().compact(64).is(2);
    }

    private static void leastShareOfSeveral() {
        Run x = run("the one for which 64 times its LIVE PAGES, divided by its PAGES (cut), is least");
        x.hold(0).commitOne(0, 0, 1).put(1, 0, 1).put(1, 8, 1).put(1, 16, 1).commit().commitOne(1, 0, 2);
        x.chunk(0, 4).is(2).chunk(1, 4).is(2).compact(25).is(Run.NONE).compact(64).is(2);
        x.count(6).is(2).count(7).is(0).commit().is(4).chunk(0, 4).is(2).chunk(1, 4).is(0);
        Run y = run("the one for which 64 times its LIVE PAGES, divided by its PAGES (cut), is least");
        y.hold(0).put(1, 0, 1).put(1, 8, 1).put(1, 16, 1).commit().commitOne(0, 0, 1).commitOne(1, 0, 2);
        y.chunk(0, 4).is(2).chunk(1, 4).is(2).compact(64).is(2).count(6).is(2).count(7).is(0);
    }

    private static void leastIdOfSeveral() {
        Run x = run("of several the least ID");
        x.hold(0).commitOne(0, 0, 1).commitOne(1, 0, 1).commitOne(2, 0, 1).commitOne(3, 0, 1);
        x.compact(64).is(2).commit().is(5).chunk(0, 4).is(0).chunk(1, 4).is(2).chunk(2, 4).is(2);
        x.compact(64).is(2).commit().is(6).chunk(1, 4).is(0).chunk(2, 4).is(2);
        Run y = run("of several the least ID");
        y.hold(0).commitOne(0, 0, 1).commitOne(1, 0, 1).commitOne(0, 0, 2).sync().commitOne(2, 0, 1).commitOne(3, 0, 1);
        y.chunkIs(0, 2, 2, 2, 3, 2).chunkIs(1, 3, 4, 2, 3, 2).chunkIs(2, 4, 0, 2, 3, 2).compact(64).is(2);
        y.commit().is(6).chunk(0, 4).is(0).chunk(1, 4).is(2).chunk(2, 4).is(2);
    }

    private static void pagesOfOldVersionsAlone() {
        Run x = run("for each of its PAGES to which the LATEST VERSION's META leads: how many");
        x.put(0, 0, 1).put(1, 0, 1).commit().commitOne(0, 0, 2).pin(2).commitOne(1, 0, 2).commitOne(0, 0, 3);
        x.chunk(0, 4).is(2).compact(25).is(Run.NONE).compact(26).is(0).count(6).is(0).count(7).is(0).commit().is(4);
        Twins.unchanged(13, "for each of its PAGES to which the LATEST VERSION's META leads: how many",
            y -> y.put(0, 0, 1).put(1, 0, 1).commit().commitOne(0, 0, 2).pin(2).commitOne(1, 0, 2).commitOne(0, 0, 3),
            y -> y.compact(26), 0);
    }

    private static void pagesThatTheLatestLeadsTo() {
        Run x = run("for each of its PAGES to which the LATEST VERSION's META leads");
        x.put(0, 0, 1).put(1, 0, 1).put(2, 0, 1).commit().hold(0).commitOne(0, 0, 2).pin(2).commitOne(1, 0, 2);
        x.chunk(0, 4).is(4).chunk(0, 3).is(7).compact(36).is(Run.NONE).compact(37).is(2).count(6).is(1).count(7).is(1);
        x.commit().is(4).chunk(0, 4).is(4).chunk(3, 3).is(3);
    }

    private static void rootAlone() {
        Run x = run("or (a ROOT) its MAP, is TOUCHED");
        x.hold(0).put(3, 0, 1).put(3, 8, 1).commit().pin(1).remove(3, 8).commit().commitOne(1, 0, 1);
        x.chunkIs(1, 2, 2, 1, 2, 1).compact(32).is(Run.NONE).compact(33).is(1).count(6).is(0).count(7).is(1);
        x.commit().is(4).chunkIs(3, 4, 5, 1, 2, 2, 4).chunk(1, 4).is(0).at(4, 3, 0).is(1).at(4, 3, 8).is(Run.NOTHING);
    }

    private static void leafAlone() {
        Run x = run("its LEAF is TOUCHED");
        x.hold(0).put(3, 24, 1).put(3, 31, 2).put(3, 0, 3).commit().commitOne(3, 0, 4).chunk(0, 4).is(1);
        x.compact(17).is(1).count(6).is(1).count(7).is(0).commit().is(3).chunk(0, 4).is(0).at(3, 3, 24).is(1);
        x.at(3, 3, 31).is(2).at(3, 3, 0).is(4).chunk(2, 3).is(3);
    }

    private static void touchedAlready() {
        Run x = run("for each of its PAGES its LEAF, or its MAP, is TOUCHED: how many");
        twentyOfTwentyOne(x);
        x.put(0, 0, 9).remove(3, 24).count(6).is(2).compact(64).is(20).count(6).is(16).count(7).is(4);
        x.compact(64).is(20).count(6).is(16).count(7).is(4).get(0, 0).is(9).get(3, 24).is(Run.NOTHING);
        x.commit().is(2).chunk(2, 3).is(20).at(2, 0, 0).is(9).at(2, 3, 24).is(Run.NOTHING);
    }

    private static void writesNothingItself() {
        Run x = run("its LEAF, or its MAP, is TOUCHED");
        twentyOfTwentyOne(x);
        x.compact(64).is(20).countsAre(1, 1, 3, 2, 20, 12, 16, 4, 21, 16).chunk(0, 4).is(20).chunk(1, 4).is(1);
        x.at(1, 0, 0).is(1).get(0, 0).is(1);
    }

    private static void refusedChangesNothing() {
        String sentence = "A call that is refused changes nothing";
        for (int n : new int[] {0, 65, Run.LEAST, Run.MOST}) {
            Twins.unchanged(13, sentence, EdgeCompactTest::oneOfTwentyOne, x -> x.compact(n), Run.REFUSED);
        }
        Twins.unchanged(13, sentence, EdgeCompactTest::oneOfTwentyOne, x -> x.compact(3), Run.NONE);
        Twins.unchanged(13, sentence, EdgeCompactTest::twentyOfTwentyOne, x -> x.compact(60), Run.NONE);
        Twins.unchanged(13, sentence, x -> x.hold(0).commitOne(0, 0, 1).commitOne(0, 0, 2), x -> x.compact(64),
            Run.NONE);
        Twins.unchanged(13, sentence, x -> x.put(0, 0, 1), x -> x.compact(64), Run.NONE);
    }
}
